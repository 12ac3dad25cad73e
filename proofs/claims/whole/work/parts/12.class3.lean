theorem dX6_spread_0 : decode cX6_spread 0 = .ok (.aload_n 1, 1) := by decide +kernel
theorem dX6_spread_1 : decode cX6_spread 1 = .ok (.invokevirtual 61, 3) := by decide +kernel
theorem dX6_spread_4 : decode cX6_spread 4 = .ok (.sipush 8191, 3) := by decide +kernel
theorem dX6_spread_7 : decode cX6_spread 7 = .ok (.iand, 1) := by decide +kernel
theorem dX6_spread_8 : decode cX6_spread 8 = .ok (.istore_n 2, 1) := by decide +kernel
theorem dX6_spread_9 : decode cX6_spread 9 = .ok (.aload_n 0, 1) := by decide +kernel
theorem dX6_spread_10 : decode cX6_spread 10 = .ok (.getfield 22, 3) := by decide +kernel
theorem dX6_spread_13 : decode cX6_spread 13 = .ok (.iload_n 2, 1) := by decide +kernel
theorem dX6_spread_14 : decode cX6_spread 14 = .ok (.iconst 0, 1) := by decide +kernel
theorem dX6_spread_15 : decode cX6_spread 15 = .ok (.iastore, 1) := by decide +kernel
theorem dX6_spread_16 : decode cX6_spread 16 = .ok (.aload_n 0, 1) := by decide +kernel
theorem dX6_spread_17 : decode cX6_spread 17 = .ok (.getfield 18, 3) := by decide +kernel
theorem dX6_spread_20 : decode cX6_spread 20 = .ok (.iconst 0, 1) := by decide +kernel
theorem dX6_spread_21 : decode cX6_spread 21 = .ok (.iload_n 2, 1) := by decide +kernel
theorem dX6_spread_22 : decode cX6_spread 22 = .ok (.iastore, 1) := by decide +kernel
theorem dX6_spread_23 : decode cX6_spread 23 = .ok (.aload_n 0, 1) := by decide +kernel
theorem dX6_spread_24 : decode cX6_spread 24 = .ok (.iconst 1, 1) := by decide +kernel
theorem dX6_spread_25 : decode cX6_spread 25 = .ok (.putfield 41, 3) := by decide +kernel
theorem dX6_spread_28 : decode cX6_spread 28 = .ok (.iconst 0, 1) := by decide +kernel
theorem dX6_spread_29 : decode cX6_spread 29 = .ok (.istore_n 3, 1) := by decide +kernel
theorem dX6_spread_30 : decode cX6_spread 30 = .ok (.iload_n 3, 1) := by decide +kernel
theorem dX6_spread_31 : decode cX6_spread 31 = .ok (.sipush 8192, 3) := by decide +kernel
theorem dX6_spread_34 : decode cX6_spread 34 = .ok (.if_icmp .ge 91, 3) := by decide +kernel
theorem dX6_spread_37 : decode cX6_spread 37 = .ok (.iload_n 3, 1) := by decide +kernel
theorem dX6_spread_38 : decode cX6_spread 38 = .ok (.aload_n 0, 1) := by decide +kernel
theorem dX6_spread_39 : decode cX6_spread 39 = .ok (.getfield 41, 3) := by decide +kernel
theorem dX6_spread_42 : decode cX6_spread 42 = .ok (.if_icmp .ge 83, 3) := by decide +kernel
theorem dX6_spread_45 : decode cX6_spread 45 = .ok (.aload_n 0, 1) := by decide +kernel
theorem dX6_spread_46 : decode cX6_spread 46 = .ok (.getfield 18, 3) := by decide +kernel
theorem dX6_spread_49 : decode cX6_spread 49 = .ok (.iload_n 3, 1) := by decide +kernel
theorem dX6_spread_50 : decode cX6_spread 50 = .ok (.iaload, 1) := by decide +kernel
theorem dX6_spread_51 : decode cX6_spread 51 = .ok (.sipush 8191, 3) := by decide +kernel
theorem dX6_spread_54 : decode cX6_spread 54 = .ok (.iand, 1) := by decide +kernel
theorem dX6_spread_55 : decode cX6_spread 55 = .ok (.istore 4, 2) := by decide +kernel
theorem dX6_spread_57 : decode cX6_spread 57 = .ok (.aload_n 1, 1) := by decide +kernel
theorem dX6_spread_58 : decode cX6_spread 58 = .ok (.iload 4, 2) := by decide +kernel
theorem dX6_spread_60 : decode cX6_spread 60 = .ok (.invokevirtual 67, 3) := by decide +kernel
theorem dX6_spread_63 : decode cX6_spread 63 = .ok (.istore 5, 2) := by decide +kernel
theorem dX6_spread_65 : decode cX6_spread 65 = .ok (.aload_n 0, 1) := by decide +kernel
theorem dX6_spread_66 : decode cX6_spread 66 = .ok (.iload 4, 2) := by decide +kernel
theorem dX6_spread_68 : decode cX6_spread 68 = .ok (.iload 5, 2) := by decide +kernel
theorem dX6_spread_70 : decode cX6_spread 70 = .ok (.invokevirtual 71, 3) := by decide +kernel
theorem dX6_spread_73 : decode cX6_spread 73 = .ok (.iconst 0, 1) := by decide +kernel
theorem dX6_spread_74 : decode cX6_spread 74 = .ok (.istore 6, 2) := by decide +kernel
theorem dX6_spread_76 : decode cX6_spread 76 = .ok (.iload 6, 2) := by decide +kernel
theorem dX6_spread_78 : decode cX6_spread 78 = .ok (.bipush 16, 2) := by decide +kernel
theorem dX6_spread_80 : decode cX6_spread 80 = .ok (.if_icmp .ge 39, 3) := by decide +kernel
theorem dX6_spread_83 : decode cX6_spread 83 = .ok (.iload 5, 2) := by decide +kernel
theorem dX6_spread_85 : decode cX6_spread 85 = .ok (.iload 6, 2) := by decide +kernel
theorem dX6_spread_87 : decode cX6_spread 87 = .ok (.ishr, 1) := by decide +kernel
theorem dX6_spread_88 : decode cX6_spread 88 = .ok (.iconst 1, 1) := by decide +kernel
theorem dX6_spread_89 : decode cX6_spread 89 = .ok (.iand, 1) := by decide +kernel
theorem dX6_spread_90 : decode cX6_spread 90 = .ok (.ifCond .eq 23, 3) := by decide +kernel
theorem dX6_spread_93 : decode cX6_spread 93 = .ok (.aload_n 0, 1) := by decide +kernel
theorem dX6_spread_94 : decode cX6_spread 94 = .ok (.aload_n 1, 1) := by decide +kernel
theorem dX6_spread_95 : decode cX6_spread 95 = .ok (.iload 4, 2) := by decide +kernel
theorem dX6_spread_97 : decode cX6_spread 97 = .ok (.iload 6, 2) := by decide +kernel
theorem dX6_spread_99 : decode cX6_spread 99 = .ok (.invokevirtual 75, 3) := by decide +kernel
theorem dX6_spread_102 : decode cX6_spread 102 = .ok (.sipush 8191, 3) := by decide +kernel
theorem dX6_spread_105 : decode cX6_spread 105 = .ok (.iand, 1) := by decide +kernel
theorem dX6_spread_106 : decode cX6_spread 106 = .ok (.iload 4, 2) := by decide +kernel
theorem dX6_spread_108 : decode cX6_spread 108 = .ok (.iload 6, 2) := by decide +kernel
theorem dX6_spread_110 : decode cX6_spread 110 = .ok (.invokevirtual 79, 3) := by decide +kernel
theorem dX6_spread_113 : decode cX6_spread 113 = .ok (.iinc 6 1, 3) := by decide +kernel
theorem dX6_spread_116 : decode cX6_spread 116 = .ok (.goto (-40), 3) := by decide +kernel
theorem dX6_spread_119 : decode cX6_spread 119 = .ok (.iinc 3 1, 3) := by decide +kernel
theorem dX6_spread_122 : decode cX6_spread 122 = .ok (.goto (-92), 3) := by decide +kernel
theorem dX6_spread_125 : decode cX6_spread 125 = .ok (.return_, 1) := by decide +kernel
def L_X6_spread_76 (N : Nat) (v0 : Nat) (v1 : Nat) (v3 : Int32) (v4 : Int32) (v5 : Int32) : Nat → Hp → Int32 → Option (Hp)
  | 0, _, _ => none
  | n + 1, σ, v6 =>
  if 16 ≤ v6 then
   some σ
  else
   if ((v5 >>> (v6 &&& 31)) &&& 1) = 0 then
   L_X6_spread_76 N v0 v1 v3 v4 v5 n σ (v6 + 1)
  else
   (m_X4_stateBehind N σ v1 v4 v6).bind fun r16 =>
  (m_X6_comeTo N σ v0 (r16 &&& 8191) v4 v6).bind fun r17 =>
  L_X6_spread_76 N v0 v1 v3 v4 v5 n r17 (v6 + 1)
def L_X6_spread_30 (N : Nat) (v0 : Nat) (v1 : Nat) : Nat → Hp → Int32 → Option (Hp)
  | 0, _, _ => none
  | n + 1, σ, v3 =>
  if 8192 ≤ v3 then
   some σ
  else
   (gI N σ v0 6 5).bind fun x8 =>
  if x8 ≤ v3 then
   some σ
  else
   (gR N σ v0 6 1).bind fun x10 =>
  (aI 0 N σ x10 v3).bind fun x11 =>
  (m_X4_movesAt N σ v1 (x11 &&& 8191)).bind fun r12 =>
  (m_X6_noteArrangement N r12.2 v0 (x11 &&& 8191) r12.1).bind fun r13 =>
  (L_X6_spread_76 N v0 v1 v3 (x11 &&& 8191) r12.1 fu r13 0).bind fun z18 =>
  L_X6_spread_30 N v0 v1 n z18 (v3 + 1)
def m_X6_spread (N : Nat) (σ : Hp) (t0 : Nat) (p1 : Nat) : Option (Hp) :=
  (rv N σ t0 6).bind fun _ =>
  (m_X4_start N σ p1).bind fun r1 =>
  (gR N σ t0 6 2).bind fun x2 =>
  (sI 0 N σ x2 (r1 &&& 8191) 0).bind fun σ3 =>
  (gR N σ3 t0 6 1).bind fun x4 =>
  (sI 0 N σ3 x4 0 (r1 &&& 8191)).bind fun σ5 =>
  (pV N σ5 t0 6 5 (.int 1)).bind fun σ6 =>
  (L_X6_spread_30 N t0 p1 fu σ6 0).bind fun z19 =>
  some z19
set_option maxHeartbeats 4000000 in
set_option maxRecDepth 100000 in
theorem lp_X6_spread_76 {κ : Kx} {ω : Om} (C : Cx κ 7 4 cX6_spread RX6 "spread") (Z : Zx κ ω) (v0 : Nat) (v1 : Nat) (v3 : Int32) (v4 : Int32) (v5 : Int32) {r : Hp} (hk : X κ 7 ω 119 [some (.ref v0), some (.ref v1), none, some (.int v3), none, none, none] [] r) : ∀ (n : Nat) (σ : Hp) (v6 : Int32), L_X6_spread_76 ω.1 v0 v1 v3 v4 v5 n σ v6 = some r → X κ 7 ω 76 [some (.ref v0), some (.ref v1), none, some (.int v3), some (.int v4), some (.int v5), some (.int v6)] [] σ := by
  intro n
  induction n with
  | zero => intro σ v6 h; cases h
  | succ n ih =>
    intro σ v6 h
    rw [L_X6_spread_76.eq_2] at h
    refine x_iload C (i := 6) dX6_spread_76 rfl ?_
    refine x_bipush C (v := 16) dX6_spread_78 (by decide) ?_
    refine x_icmp_ge C (tgt := 119) dX6_spread_80 (by decide) (fun c14 => ?_) (fun c14 => ?_)
    · have h := ifP h c14
      refine x_wk [true, true, false, true, false, false, false] (lo' := [some (.ref v0), some (.ref v1), none, some (.int v3), none, none, none]) rfl ?_
      obtain rfl := Option.some.inj h
      exact hk
    · have h := ifN h c14
      refine x_iload C (i := 5) dX6_spread_83 rfl ?_
      refine x_iload C (i := 6) dX6_spread_85 rfl ?_
      refine x_ishr C dX6_spread_87 ?_
      refine x_iconst C (v := 1) dX6_spread_88 (by decide) ?_
      refine x_iand C dX6_spread_89 ?_
      refine x_if_eq C (tgt := 113) dX6_spread_90 (by decide) (fun c15 => ?_) (fun c15 => ?_)
      · have h := ifP h c15
        refine x_iinc C (i := 6) (y := v6 + 1) (lo' := [some (.ref v0), some (.ref v1), none, some (.int v3), some (.int v4), some (.int v5), some (.int (v6 + 1))]) dX6_spread_113 rfl rfl (by decide) rfl rfl ?_
        refine x_goto C (tgt := 76) dX6_spread_116 (by decide) ?_
        refine x_wk [true, true, false, true, true, true, true] (lo' := [some (.ref v0), some (.ref v1), none, some (.int v3), some (.int v4), some (.int v5), some (.int (v6 + 1))]) rfl ?_
        exact ih σ (v6 + 1) h
      · have h := ifN h c15
        refine x_aload_n C (i := 0) dX6_spread_93 rfl rfl ?_
        refine x_aload_n C (i := 1) dX6_spread_94 rfl rfl ?_
        refine x_iload C (i := 4) dX6_spread_95 rfl ?_
        refine x_iload C (i := 6) dX6_spread_97 rfl ?_
        obtain ⟨r16, er16, h⟩ := ob h
        refine x_callVr C Z mv_X4_stateBehind lk_X6_75 (rv_h er16) (ct_X4_stateBehind er16) (by decide) rfl rfl (Nat.le_of_ble_eq_true rfl) dX6_spread_99 ?_
        refine x_sipush C (v := 8191) dX6_spread_102 (by decide) ?_
        refine x_iand C dX6_spread_105 ?_
        refine x_iload C (i := 4) dX6_spread_106 rfl ?_
        refine x_iload C (i := 6) dX6_spread_108 rfl ?_
        obtain ⟨r17, er17, h⟩ := ob h
        refine x_callVn C Z mv_X6_comeTo lk_X6_79 (rv_h er17) (ct_X6_comeTo er17) (by decide) rfl rfl (Nat.le_of_ble_eq_true rfl) dX6_spread_110 ?_
        refine x_iinc C (i := 6) (y := v6 + 1) (lo' := [some (.ref v0), some (.ref v1), none, some (.int v3), some (.int v4), some (.int v5), some (.int (v6 + 1))]) dX6_spread_113 rfl rfl (by decide) rfl rfl ?_
        refine x_goto C (tgt := 76) dX6_spread_116 (by decide) ?_
        refine x_wk [true, true, false, true, true, true, true] (lo' := [some (.ref v0), some (.ref v1), none, some (.int v3), some (.int v4), some (.int v5), some (.int (v6 + 1))]) rfl ?_
        exact ih r17 (v6 + 1) h
set_option maxHeartbeats 4000000 in
set_option maxRecDepth 100000 in
theorem lp_X6_spread_30 {κ : Kx} {ω : Om} (C : Cx κ 7 4 cX6_spread RX6 "spread") (Z : Zx κ ω) (v0 : Nat) (v1 : Nat) {r : Hp} (hk : X κ 7 ω 125 [none, none, none, none, none, none, none] [] r) : ∀ (n : Nat) (σ : Hp) (v3 : Int32), L_X6_spread_30 ω.1 v0 v1 n σ v3 = some r → X κ 7 ω 30 [some (.ref v0), some (.ref v1), none, some (.int v3), none, none, none] [] σ := by
  intro n
  induction n with
  | zero => intro σ v3 h; cases h
  | succ n ih =>
    intro σ v3 h
    rw [L_X6_spread_30.eq_2] at h
    refine x_iload_n C (i := 3) dX6_spread_30 rfl rfl ?_
    refine x_sipush C (v := 8192) dX6_spread_31 (by decide) ?_
    refine x_icmp_ge C (tgt := 125) dX6_spread_34 (by decide) (fun c7 => ?_) (fun c7 => ?_)
    · have h := ifP h c7
      refine x_wk [false, false, false, false, false, false, false] (lo' := [none, none, none, none, none, none, none]) rfl ?_
      obtain rfl := Option.some.inj h
      exact hk
    · have h := ifN h c7
      refine x_iload_n C (i := 3) dX6_spread_37 rfl rfl ?_
      refine x_aload_n C (i := 0) dX6_spread_38 rfl rfl ?_
      obtain ⟨x8, ex8, h⟩ := ob h
      refine x_getI C fl_X6_41 dX6_spread_39 ex8 ?_
      refine x_icmp_ge C (tgt := 125) dX6_spread_42 (by decide) (fun c9 => ?_) (fun c9 => ?_)
      · have h := ifP h c9
        refine x_wk [false, false, false, false, false, false, false] (lo' := [none, none, none, none, none, none, none]) rfl ?_
        obtain rfl := Option.some.inj h
        exact hk
      · have h := ifN h c9
        refine x_aload_n C (i := 0) dX6_spread_45 rfl rfl ?_
        obtain ⟨x10, ex10, h⟩ := ob h
        refine x_getR C fl_X6_18 dX6_spread_46 ex10 ?_
        refine x_iload_n C (i := 3) dX6_spread_49 rfl rfl ?_
        obtain ⟨x11, ex11, h⟩ := ob h
        refine x_iald C dX6_spread_50 ex11 ?_
        refine x_sipush C (v := 8191) dX6_spread_51 (by decide) ?_
        refine x_iand C dX6_spread_54 ?_
        refine x_istore C (i := 4) (lo' := [some (.ref v0), some (.ref v1), none, some (.int v3), some (.int (x11 &&& 8191)), none, none]) dX6_spread_55 (by decide) rfl rfl ?_
        refine x_aload_n C (i := 1) dX6_spread_57 rfl rfl ?_
        refine x_iload C (i := 4) dX6_spread_58 rfl ?_
        obtain ⟨r12, er12, h⟩ := ob h
        refine x_callVr C Z mv_X4_movesAt lk_X6_67 (rv_h er12) (ct_X4_movesAt er12) (by decide) rfl rfl (Nat.le_of_ble_eq_true rfl) dX6_spread_60 ?_
        refine x_istore C (i := 5) (lo' := [some (.ref v0), some (.ref v1), none, some (.int v3), some (.int (x11 &&& 8191)), some (.int r12.1), none]) dX6_spread_63 (by decide) rfl rfl ?_
        refine x_aload_n C (i := 0) dX6_spread_65 rfl rfl ?_
        refine x_iload C (i := 4) dX6_spread_66 rfl ?_
        refine x_iload C (i := 5) dX6_spread_68 rfl ?_
        obtain ⟨r13, er13, h⟩ := ob h
        refine x_callVn C Z mv_X6_noteArrangement lk_X6_71 (rv_h er13) (ct_X6_noteArrangement er13) (by decide) rfl rfl (Nat.le_of_ble_eq_true rfl) dX6_spread_70 ?_
        refine x_iconst C (v := 0) dX6_spread_73 (by decide) ?_
        refine x_istore C (i := 6) (lo' := [some (.ref v0), some (.ref v1), none, some (.int v3), some (.int (x11 &&& 8191)), some (.int r12.1), some (.int 0)]) dX6_spread_74 (by decide) rfl rfl ?_
        obtain ⟨z18, ez18, h⟩ := ob h
        refine x_wk [true, true, false, true, true, true, true] (lo' := [some (.ref v0), some (.ref v1), none, some (.int v3), some (.int (x11 &&& 8191)), some (.int r12.1), some (.int 0)]) rfl ?_
        refine lp_X6_spread_76 C Z v0 v1 v3 (x11 &&& 8191) r12.1 ?_ _ r13 0 ez18
        refine x_iinc C (i := 3) (y := v3 + 1) (lo' := [some (.ref v0), some (.ref v1), none, some (.int (v3 + 1)), none, none, none]) dX6_spread_119 rfl rfl (by decide) rfl rfl ?_
        refine x_goto C (tgt := 30) dX6_spread_122 (by decide) ?_
        refine x_wk [true, true, false, true, false, false, false] (lo' := [some (.ref v0), some (.ref v1), none, some (.int (v3 + 1)), none, none, none]) rfl ?_
        exact ih z18 (v3 + 1) h
set_option maxHeartbeats 4000000 in
set_option maxRecDepth 100000 in
theorem ct_X6_spread {l : Launch} {D : va_G} {cy : Nat → Nat} {N : Nat} {σ : Hp} {t0 : Nat} {p1 : Nat} {r : Hp} (h : m_X6_spread N σ t0 p1 = some r) : Ct l D cy yX6_spread cX6_spread 7 none 4 [.ref t0, .ref p1] N σ (fun v s' => v = none ∧ s' = r) := by
  refine Ct.intro [some (.ref t0), some (.ref p1), none, none, none, none, none] (by decide) rfl (Nat.le_of_ble_eq_true rfl) ?_
  intro κ ω e1 e2 e3 e4 C Z E
  subst e1; subst e2; subst e3; subst e4
  have C : Cx κ 7 4 cX6_spread RX6 "spread" := C
  have hE : ∀ x : Hp, r = x → ((none : Option Value) = none ∧ x = r) := fun x hx => by subst hx; exact ⟨rfl, rfl⟩
  unfold m_X6_spread at h
  obtain ⟨_, _, h⟩ := ob h
  refine x_aload_n C (i := 1) dX6_spread_0 rfl rfl ?_
  obtain ⟨r1, er1, h⟩ := ob h
  refine x_callVr C Z mv_X4_start lk_X6_61 (rv_h er1) (ct_X4_start er1) (by decide) rfl rfl (Nat.le_of_ble_eq_true rfl) dX6_spread_1 ?_
  refine x_sipush C (v := 8191) dX6_spread_4 (by decide) ?_
  refine x_iand C dX6_spread_7 ?_
  refine x_istore_n C (i := 2) (lo' := [some (.ref t0), some (.ref p1), some (.int (r1 &&& 8191)), none, none, none, none]) dX6_spread_8 rfl (by decide) rfl rfl ?_
  refine x_aload_n C (i := 0) dX6_spread_9 rfl rfl ?_
  obtain ⟨x2, ex2, h⟩ := ob h
  refine x_getR C fl_X6_22 dX6_spread_10 ex2 ?_
  refine x_iload_n C (i := 2) dX6_spread_13 rfl rfl ?_
  refine x_iconst C (v := 0) dX6_spread_14 (by decide) ?_
  obtain ⟨σ3, eσ3, h⟩ := ob h
  refine x_iast C dX6_spread_15 eσ3 ?_
  refine x_aload_n C (i := 0) dX6_spread_16 rfl rfl ?_
  obtain ⟨x4, ex4, h⟩ := ob h
  refine x_getR C fl_X6_18 dX6_spread_17 ex4 ?_
  refine x_iconst C (v := 0) dX6_spread_20 (by decide) ?_
  refine x_iload_n C (i := 2) dX6_spread_21 rfl rfl ?_
  obtain ⟨σ5, eσ5, h⟩ := ob h
  refine x_iast C dX6_spread_22 eσ5 ?_
  refine x_aload_n C (i := 0) dX6_spread_23 rfl rfl ?_
  refine x_iconst C (v := 1) dX6_spread_24 (by decide) ?_
  obtain ⟨σ6, eσ6, h⟩ := ob h
  refine x_put C pl_X6_41 dX6_spread_25 (fun _ => ⟨rfl, rfl⟩) eσ6 ?_
  refine x_iconst C (v := 0) dX6_spread_28 (by decide) ?_
  refine x_istore_n C (i := 3) (lo' := [some (.ref t0), some (.ref p1), some (.int (r1 &&& 8191)), some (.int 0), none, none, none]) dX6_spread_29 rfl (by decide) rfl rfl ?_
  obtain ⟨z19, ez19, h⟩ := ob h
  refine x_wk [true, true, false, true, false, false, false] (lo' := [some (.ref t0), some (.ref p1), none, some (.int 0), none, none, none]) rfl ?_
  refine lp_X6_spread_30 C Z t0 p1 ?_ _ σ6 0 ez19
  exact x_vret C E dX6_spread_125 (hE z19 (Option.some.inj h).symm)
theorem dX6_soonestOf_0 : decode cX6_soonestOf 0 = .ok (.aload_n 0, 1) := by decide +kernel
theorem dX6_soonestOf_1 : decode cX6_soonestOf 1 = .ok (.getfield 22, 3) := by decide +kernel
theorem dX6_soonestOf_4 : decode cX6_soonestOf 4 = .ok (.iload_n 1, 1) := by decide +kernel
theorem dX6_soonestOf_5 : decode cX6_soonestOf 5 = .ok (.iaload, 1) := by decide +kernel
theorem dX6_soonestOf_6 : decode cX6_soonestOf 6 = .ok (.istore_n 2, 1) := by decide +kernel
theorem dX6_soonestOf_7 : decode cX6_soonestOf 7 = .ok (.aload_n 0, 1) := by decide +kernel
theorem dX6_soonestOf_8 : decode cX6_soonestOf 8 = .ok (.getfield 22, 3) := by decide +kernel
theorem dX6_soonestOf_11 : decode cX6_soonestOf 11 = .ok (.iload_n 1, 1) := by decide +kernel
theorem dX6_soonestOf_12 : decode cX6_soonestOf 12 = .ok (.sipush 4096, 3) := by decide +kernel
theorem dX6_soonestOf_15 : decode cX6_soonestOf 15 = .ok (.ior, 1) := by decide +kernel
theorem dX6_soonestOf_16 : decode cX6_soonestOf 16 = .ok (.iaload, 1) := by decide +kernel
theorem dX6_soonestOf_17 : decode cX6_soonestOf 17 = .ok (.istore_n 3, 1) := by decide +kernel
theorem dX6_soonestOf_18 : decode cX6_soonestOf 18 = .ok (.iload_n 3, 1) := by decide +kernel
theorem dX6_soonestOf_19 : decode cX6_soonestOf 19 = .ok (.iconst (-1), 1) := by decide +kernel
theorem dX6_soonestOf_20 : decode cX6_soonestOf 20 = .ok (.if_icmp .eq 17, 3) := by decide +kernel
theorem dX6_soonestOf_23 : decode cX6_soonestOf 23 = .ok (.iload_n 2, 1) := by decide +kernel
theorem dX6_soonestOf_24 : decode cX6_soonestOf 24 = .ok (.iconst (-1), 1) := by decide +kernel
theorem dX6_soonestOf_25 : decode cX6_soonestOf 25 = .ok (.if_icmp .eq 8, 3) := by decide +kernel
theorem dX6_soonestOf_28 : decode cX6_soonestOf 28 = .ok (.iload_n 3, 1) := by decide +kernel
theorem dX6_soonestOf_29 : decode cX6_soonestOf 29 = .ok (.iload_n 2, 1) := by decide +kernel
theorem dX6_soonestOf_30 : decode cX6_soonestOf 30 = .ok (.if_icmp .ge 7, 3) := by decide +kernel
theorem dX6_soonestOf_33 : decode cX6_soonestOf 33 = .ok (.iconst 1, 1) := by decide +kernel
theorem dX6_soonestOf_34 : decode cX6_soonestOf 34 = .ok (.goto 4, 3) := by decide +kernel
theorem dX6_soonestOf_37 : decode cX6_soonestOf 37 = .ok (.iconst 0, 1) := by decide +kernel
theorem dX6_soonestOf_38 : decode cX6_soonestOf 38 = .ok (.istore 4, 2) := by decide +kernel
theorem dX6_soonestOf_40 : decode cX6_soonestOf 40 = .ok (.iload 4, 2) := by decide +kernel
theorem dX6_soonestOf_42 : decode cX6_soonestOf 42 = .ok (.ifCond .eq 11, 3) := by decide +kernel
theorem dX6_soonestOf_45 : decode cX6_soonestOf 45 = .ok (.iload_n 1, 1) := by decide +kernel
theorem dX6_soonestOf_46 : decode cX6_soonestOf 46 = .ok (.sipush 4096, 3) := by decide +kernel
theorem dX6_soonestOf_49 : decode cX6_soonestOf 49 = .ok (.ior, 1) := by decide +kernel
theorem dX6_soonestOf_50 : decode cX6_soonestOf 50 = .ok (.goto 4, 3) := by decide +kernel
theorem dX6_soonestOf_53 : decode cX6_soonestOf 53 = .ok (.iload_n 1, 1) := by decide +kernel
theorem dX6_soonestOf_54 : decode cX6_soonestOf 54 = .ok (.ireturn, 1) := by decide +kernel
def m_X6_soonestOf (N : Nat) (σ : Hp) (t0 : Nat) (p1 : Int32) : Option (Int32) :=
  (rv N σ t0 6).bind fun _ =>
  (gR N σ t0 6 2).bind fun x1 =>
  (aI 0 N σ x1 p1).bind fun x2 =>
  (gR N σ t0 6 2).bind fun x3 =>
  (aI 0 N σ x3 (p1 ||| 4096)).bind fun x4 =>
  ((if x4 = (-1) then
   some 0
  else
   if x2 = (-1) then
   some 1
  else
   if x2 ≤ x4 then
   some 0
  else
   some 1) : Option (Int32)).bind fun z5 =>
  if z5 = 0 then
   some p1
  else
   some (p1 ||| 4096)
set_option maxHeartbeats 4000000 in
set_option maxRecDepth 100000 in
theorem ct_X6_soonestOf {l : Launch} {D : va_G} {cy : Nat → Nat} {N : Nat} {σ : Hp} {t0 : Nat} {p1 : Int32} {r : Int32} (h : m_X6_soonestOf N σ t0 p1 = some r) : Ct l D cy yX6_soonestOf cX6_soonestOf 5 (some .int) 0 [.ref t0, .int p1] N σ (fun v s' => v = (some (.int r)) ∧ s' = σ) := by
  refine Ct.intro [some (.ref t0), some (.int p1), none, none, none] (by decide) rfl (Nat.le_of_ble_eq_true rfl) ?_
  intro κ ω e1 e2 e3 e4 C Z E
  subst e1; subst e2; subst e3; subst e4
  have C : Cx κ 5 0 cX6_soonestOf RX6 "soonestOf" := C
  have hE : ∀ x : Int32, r = x → ((some (Value.int x)) = (some (Value.int r)) ∧ σ = σ) := fun x hx => by subst hx; exact ⟨rfl, rfl⟩
  unfold m_X6_soonestOf at h
  obtain ⟨_, _, h⟩ := ob h
  refine x_aload_n C (i := 0) dX6_soonestOf_0 rfl rfl ?_
  obtain ⟨x1, ex1, h⟩ := ob h
  refine x_getR C fl_X6_22 dX6_soonestOf_1 ex1 ?_
  refine x_iload_n C (i := 1) dX6_soonestOf_4 rfl rfl ?_
  obtain ⟨x2, ex2, h⟩ := ob h
  refine x_iald C dX6_soonestOf_5 ex2 ?_
  refine x_istore_n C (i := 2) (lo' := [some (.ref t0), some (.int p1), some (.int x2), none, none]) dX6_soonestOf_6 rfl (by decide) rfl rfl ?_
  refine x_aload_n C (i := 0) dX6_soonestOf_7 rfl rfl ?_
  obtain ⟨x3, ex3, h⟩ := ob h
  refine x_getR C fl_X6_22 dX6_soonestOf_8 ex3 ?_
  refine x_iload_n C (i := 1) dX6_soonestOf_11 rfl rfl ?_
  refine x_sipush C (v := 4096) dX6_soonestOf_12 (by decide) ?_
  refine x_ior C dX6_soonestOf_15 ?_
  obtain ⟨x4, ex4, h⟩ := ob h
  refine x_iald C dX6_soonestOf_16 ex4 ?_
  refine x_istore_n C (i := 3) (lo' := [some (.ref t0), some (.int p1), some (.int x2), some (.int x4), none]) dX6_soonestOf_17 rfl (by decide) rfl rfl ?_
  refine x_iload_n C (i := 3) dX6_soonestOf_18 rfl rfl ?_
  refine x_iconst C (v := (-1)) dX6_soonestOf_19 (by decide) ?_
  obtain ⟨z5, hz5, h⟩ := ob h
  have hJ7 : X κ 5 ω 38 [none, some (.int p1), none, none, none] [.int z5] σ := by
    refine x_istore C (i := 4) (lo' := [none, some (.int p1), none, none, some (.int z5)]) dX6_soonestOf_38 (by decide) rfl rfl ?_
    refine x_iload C (i := 4) dX6_soonestOf_40 rfl ?_
    refine x_if_eq C (tgt := 53) dX6_soonestOf_42 (by decide) (fun c6 => ?_) (fun c6 => ?_)
    · have h := ifP h c6
      refine x_iload_n C (i := 1) dX6_soonestOf_53 rfl rfl ?_
      exact x_iret C E dX6_soonestOf_54 (hE p1 (Option.some.inj h).symm)
    · have h := ifN h c6
      refine x_iload_n C (i := 1) dX6_soonestOf_45 rfl rfl ?_
      refine x_sipush C (v := 4096) dX6_soonestOf_46 (by decide) ?_
      refine x_ior C dX6_soonestOf_49 ?_
      refine x_goto C (tgt := 54) dX6_soonestOf_50 (by decide) ?_
      exact x_iret C E dX6_soonestOf_54 (hE (p1 ||| 4096) (Option.some.inj h).symm)
  clear h
  have h := hz5
  refine x_icmp_eq C (tgt := 37) dX6_soonestOf_20 (by decide) (fun c9 => ?_) (fun c9 => ?_)
  · have h := ifP h c9
    refine x_iconst C (v := 0) dX6_soonestOf_37 (by decide) ?_
    refine x_wk [false, true, false, false, false] (lo' := [none, some (.int p1), none, none, none]) rfl ?_
    obtain rfl := Option.some.inj h
    exact hJ7
  · have h := ifN h c9
    refine x_iload_n C (i := 2) dX6_soonestOf_23 rfl rfl ?_
    refine x_iconst C (v := (-1)) dX6_soonestOf_24 (by decide) ?_
    refine x_icmp_eq C (tgt := 33) dX6_soonestOf_25 (by decide) (fun c10 => ?_) (fun c10 => ?_)
    · have h := ifP h c10
      refine x_iconst C (v := 1) dX6_soonestOf_33 (by decide) ?_
      refine x_goto C (tgt := 38) dX6_soonestOf_34 (by decide) ?_
      refine x_wk [false, true, false, false, false] (lo' := [none, some (.int p1), none, none, none]) rfl ?_
      obtain rfl := Option.some.inj h
      exact hJ7
    · have h := ifN h c10
      refine x_iload_n C (i := 3) dX6_soonestOf_28 rfl rfl ?_
      refine x_iload_n C (i := 2) dX6_soonestOf_29 rfl rfl ?_
      refine x_icmp_ge C (tgt := 37) dX6_soonestOf_30 (by decide) (fun c11 => ?_) (fun c11 => ?_)
      · have h := ifP h c11
        refine x_iconst C (v := 0) dX6_soonestOf_37 (by decide) ?_
        refine x_wk [false, true, false, false, false] (lo' := [none, some (.int p1), none, none, none]) rfl ?_
        obtain rfl := Option.some.inj h
        exact hJ7
      · have h := ifN h c11
        refine x_iconst C (v := 1) dX6_soonestOf_33 (by decide) ?_
        refine x_goto C (tgt := 38) dX6_soonestOf_34 (by decide) ?_
        refine x_wk [false, true, false, false, false] (lo' := [none, some (.int p1), none, none, none]) rfl ?_
        obtain rfl := Option.some.inj h
        exact hJ7
theorem dX6_fewest_0 : decode cX6_fewest 0 = .ok (.aload_n 0, 1) := by decide +kernel
theorem dX6_fewest_1 : decode cX6_fewest 1 = .ok (.iload_n 1, 1) := by decide +kernel
theorem dX6_fewest_2 : decode cX6_fewest 2 = .ok (.sipush 4095, 3) := by decide +kernel
theorem dX6_fewest_5 : decode cX6_fewest 5 = .ok (.iand, 1) := by decide +kernel
theorem dX6_fewest_6 : decode cX6_fewest 6 = .ok (.invokevirtual 86, 3) := by decide +kernel
theorem dX6_fewest_9 : decode cX6_fewest 9 = .ok (.istore_n 3, 1) := by decide +kernel
theorem dX6_fewest_10 : decode cX6_fewest 10 = .ok (.aload_n 0, 1) := by decide +kernel
theorem dX6_fewest_11 : decode cX6_fewest 11 = .ok (.getfield 22, 3) := by decide +kernel
theorem dX6_fewest_14 : decode cX6_fewest 14 = .ok (.iload_n 3, 1) := by decide +kernel
theorem dX6_fewest_15 : decode cX6_fewest 15 = .ok (.iaload, 1) := by decide +kernel
theorem dX6_fewest_16 : decode cX6_fewest 16 = .ok (.istore 4, 2) := by decide +kernel
theorem dX6_fewest_18 : decode cX6_fewest 18 = .ok (.iload 4, 2) := by decide +kernel
theorem dX6_fewest_20 : decode cX6_fewest 20 = .ok (.iconst (-1), 1) := by decide +kernel
theorem dX6_fewest_21 : decode cX6_fewest 21 = .ok (.if_icmp .eq 9, 3) := by decide +kernel
theorem dX6_fewest_24 : decode cX6_fewest 24 = .ok (.iload_n 2, 1) := by decide +kernel
theorem dX6_fewest_25 : decode cX6_fewest 25 = .ok (.iload 4, 2) := by decide +kernel
theorem dX6_fewest_27 : decode cX6_fewest 27 = .ok (.if_icmp .lt 6, 3) := by decide +kernel
theorem dX6_fewest_30 : decode cX6_fewest 30 = .ok (.ldc 57, 2) := by decide +kernel
theorem dX6_fewest_32 : decode cX6_fewest 32 = .ok (.ireturn, 1) := by decide +kernel
theorem dX6_fewest_33 : decode cX6_fewest 33 = .ok (.iload_n 2, 1) := by decide +kernel
theorem dX6_fewest_34 : decode cX6_fewest 34 = .ok (.ifCond .ge 6, 3) := by decide +kernel
theorem dX6_fewest_37 : decode cX6_fewest 37 = .ok (.iload 4, 2) := by decide +kernel
theorem dX6_fewest_39 : decode cX6_fewest 39 = .ok (.ireturn, 1) := by decide +kernel
theorem dX6_fewest_40 : decode cX6_fewest 40 = .ok (.iload 4, 2) := by decide +kernel
theorem dX6_fewest_42 : decode cX6_fewest 42 = .ok (.iconst 1, 1) := by decide +kernel
theorem dX6_fewest_43 : decode cX6_fewest 43 = .ok (.isub, 1) := by decide +kernel
theorem dX6_fewest_44 : decode cX6_fewest 44 = .ok (.istore 5, 2) := by decide +kernel
theorem dX6_fewest_46 : decode cX6_fewest 46 = .ok (.iload 5, 2) := by decide +kernel
theorem dX6_fewest_48 : decode cX6_fewest 48 = .ok (.iload_n 2, 1) := by decide +kernel
theorem dX6_fewest_49 : decode cX6_fewest 49 = .ok (.if_icmp .le 16, 3) := by decide +kernel
theorem dX6_fewest_52 : decode cX6_fewest 52 = .ok (.aload_n 0, 1) := by decide +kernel
theorem dX6_fewest_53 : decode cX6_fewest 53 = .ok (.getfield 28, 3) := by decide +kernel
theorem dX6_fewest_56 : decode cX6_fewest 56 = .ok (.iload_n 3, 1) := by decide +kernel
theorem dX6_fewest_57 : decode cX6_fewest 57 = .ok (.iaload, 1) := by decide +kernel
theorem dX6_fewest_58 : decode cX6_fewest 58 = .ok (.istore_n 3, 1) := by decide +kernel
theorem dX6_fewest_59 : decode cX6_fewest 59 = .ok (.iinc 5 (-1), 3) := by decide +kernel
theorem dX6_fewest_62 : decode cX6_fewest 62 = .ok (.goto (-16), 3) := by decide +kernel
theorem dX6_fewest_65 : decode cX6_fewest 65 = .ok (.aload_n 0, 1) := by decide +kernel
theorem dX6_fewest_66 : decode cX6_fewest 66 = .ok (.getfield 25, 3) := by decide +kernel
theorem dX6_fewest_69 : decode cX6_fewest 69 = .ok (.iload_n 3, 1) := by decide +kernel
theorem dX6_fewest_70 : decode cX6_fewest 70 = .ok (.iaload, 1) := by decide +kernel
theorem dX6_fewest_71 : decode cX6_fewest 71 = .ok (.istore 5, 2) := by decide +kernel
theorem dX6_fewest_73 : decode cX6_fewest 73 = .ok (.bipush 10, 2) := by decide +kernel
theorem dX6_fewest_75 : decode cX6_fewest 75 = .ok (.iload 5, 2) := by decide +kernel
theorem dX6_fewest_77 : decode cX6_fewest 77 = .ok (.iconst 2, 1) := by decide +kernel
theorem dX6_fewest_78 : decode cX6_fewest 78 = .ok (.ishr, 1) := by decide +kernel
theorem dX6_fewest_79 : decode cX6_fewest 79 = .ok (.imul, 1) := by decide +kernel
theorem dX6_fewest_80 : decode cX6_fewest 80 = .ok (.iload 5, 2) := by decide +kernel
theorem dX6_fewest_82 : decode cX6_fewest 82 = .ok (.iconst 3, 1) := by decide +kernel
theorem dX6_fewest_83 : decode cX6_fewest 83 = .ok (.iand, 1) := by decide +kernel
theorem dX6_fewest_84 : decode cX6_fewest 84 = .ok (.iadd, 1) := by decide +kernel
theorem dX6_fewest_85 : decode cX6_fewest 85 = .ok (.ireturn, 1) := by decide +kernel
def L_X6_fewest_46 (N : Nat) (σ : Hp) (v0 : Nat) (v2 : Int32) : Nat → Int32 → Int32 → Option (Int32)
  | 0, _, _ => none
  | n + 1, v3, v5 =>
  if v5 ≤ v2 then
   some v3
  else
   (gR N σ v0 6 4).bind fun x8 =>
  (aI 0 N σ x8 v3).bind fun x9 =>
  L_X6_fewest_46 N σ v0 v2 n x9 (v5 + (-1))
def m_X6_fewest (N : Nat) (σ : Hp) (t0 : Nat) (p1 : Int32) (p2 : Int32) : Option (Int32) :=
  (rv N σ t0 6).bind fun _ =>
  (m_X6_soonestOf N σ t0 (p1 &&& 4095)).bind fun r1 =>
  (gR N σ t0 6 2).bind fun x2 =>
  (aI 0 N σ x2 r1).bind fun x3 =>
  if x3 = (-1) then
   some (-1000000)
  else
   if p2 < x3 then
   if 0 ≤ p2 then
   (L_X6_fewest_46 N σ t0 p2 fu r1 (x3 - 1)).bind fun z10 =>
  (gR N σ t0 6 3).bind fun x11 =>
  (aI 0 N σ x11 z10).bind fun x12 =>
  some (((10 : Int32) * (x12 >>> (2 &&& 31))) + (x12 &&& 3))
  else
   some x3
  else
   some (-1000000)
set_option maxHeartbeats 4000000 in
set_option maxRecDepth 100000 in
theorem lp_X6_fewest_46 {κ : Kx} {ω : Om} (C : Cx κ 6 1 cX6_fewest RX6 "fewest") (Z : Zx κ ω) (σ : Hp) (v0 : Nat) (v2 : Int32) {r : Int32} (hk : X κ 6 ω 65 [some (.ref v0), none, none, some (.int r), none, none] [] σ) : ∀ (n : Nat) (v3 : Int32) (v5 : Int32), L_X6_fewest_46 ω.1 σ v0 v2 n v3 v5 = some r → X κ 6 ω 46 [some (.ref v0), none, some (.int v2), some (.int v3), none, some (.int v5)] [] σ := by
  intro n
  induction n with
  | zero => intro v3 v5 h; cases h
  | succ n ih =>
    intro v3 v5 h
    rw [L_X6_fewest_46.eq_2] at h
    refine x_iload C (i := 5) dX6_fewest_46 rfl ?_
    refine x_iload_n C (i := 2) dX6_fewest_48 rfl rfl ?_
    refine x_icmp_le C (tgt := 65) dX6_fewest_49 (by decide) (fun c7 => ?_) (fun c7 => ?_)
    · have h := ifP h c7
      refine x_wk [true, false, false, true, false, false] (lo' := [some (.ref v0), none, none, some (.int v3), none, none]) rfl ?_
      obtain rfl := Option.some.inj h
      exact hk
    · have h := ifN h c7
      refine x_aload_n C (i := 0) dX6_fewest_52 rfl rfl ?_
      obtain ⟨x8, ex8, h⟩ := ob h
      refine x_getR C fl_X6_28 dX6_fewest_53 ex8 ?_
      refine x_iload_n C (i := 3) dX6_fewest_56 rfl rfl ?_
      obtain ⟨x9, ex9, h⟩ := ob h
      refine x_iald C dX6_fewest_57 ex9 ?_
      refine x_istore_n C (i := 3) (lo' := [some (.ref v0), none, some (.int v2), some (.int x9), none, some (.int v5)]) dX6_fewest_58 rfl (by decide) rfl rfl ?_
      refine x_iinc C (i := 5) (y := v5 + (-1)) (lo' := [some (.ref v0), none, some (.int v2), some (.int x9), none, some (.int (v5 + (-1)))]) dX6_fewest_59 rfl rfl (by decide) rfl rfl ?_
      refine x_goto C (tgt := 46) dX6_fewest_62 (by decide) ?_
      refine x_wk [true, false, true, true, false, true] (lo' := [some (.ref v0), none, some (.int v2), some (.int x9), none, some (.int (v5 + (-1)))]) rfl ?_
      exact ih x9 (v5 + (-1)) h
set_option maxHeartbeats 4000000 in
set_option maxRecDepth 100000 in
theorem ct_X6_fewest {l : Launch} {D : va_G} {cy : Nat → Nat} {N : Nat} {σ : Hp} {t0 : Nat} {p1 : Int32} {p2 : Int32} {r : Int32} (h : m_X6_fewest N σ t0 p1 p2 = some r) : Ct l D cy yX6_fewest cX6_fewest 6 (some .int) 1 [.ref t0, .int p1, .int p2] N σ (fun v s' => v = (some (.int r)) ∧ s' = σ) := by
  refine Ct.intro [some (.ref t0), some (.int p1), some (.int p2), none, none, none] (by decide) rfl (Nat.le_of_ble_eq_true rfl) ?_
  intro κ ω e1 e2 e3 e4 C Z E
  subst e1; subst e2; subst e3; subst e4
  have C : Cx κ 6 1 cX6_fewest RX6 "fewest" := C
  have hE : ∀ x : Int32, r = x → ((some (Value.int x)) = (some (Value.int r)) ∧ σ = σ) := fun x hx => by subst hx; exact ⟨rfl, rfl⟩
  unfold m_X6_fewest at h
  obtain ⟨_, _, h⟩ := ob h
  refine x_aload_n C (i := 0) dX6_fewest_0 rfl rfl ?_
  refine x_iload_n C (i := 1) dX6_fewest_1 rfl rfl ?_
  refine x_sipush C (v := 4095) dX6_fewest_2 (by decide) ?_
  refine x_iand C dX6_fewest_5 ?_
  obtain ⟨r1, er1, h⟩ := ob h
  refine x_callVr C Z mv_X6_soonestOf lk_X6_86 (rv_h er1) (ct_X6_soonestOf er1) (by decide) rfl rfl (Nat.le_of_ble_eq_true rfl) dX6_fewest_6 ?_
  refine x_istore_n C (i := 3) (lo' := [some (.ref t0), some (.int p1), some (.int p2), some (.int r1), none, none]) dX6_fewest_9 rfl (by decide) rfl rfl ?_
  refine x_aload_n C (i := 0) dX6_fewest_10 rfl rfl ?_
  obtain ⟨x2, ex2, h⟩ := ob h
  refine x_getR C fl_X6_22 dX6_fewest_11 ex2 ?_
  refine x_iload_n C (i := 3) dX6_fewest_14 rfl rfl ?_
  obtain ⟨x3, ex3, h⟩ := ob h
  refine x_iald C dX6_fewest_15 ex3 ?_
  refine x_istore C (i := 4) (lo' := [some (.ref t0), some (.int p1), some (.int p2), some (.int r1), some (.int x3), none]) dX6_fewest_16 (by decide) rfl rfl ?_
  refine x_iload C (i := 4) dX6_fewest_18 rfl ?_
  refine x_iconst C (v := (-1)) dX6_fewest_20 (by decide) ?_
  refine x_icmp_eq C (tgt := 30) dX6_fewest_21 (by decide) (fun c4 => ?_) (fun c4 => ?_)
  · have h := ifP h c4
    refine x_ldc C kc_X6_57 dX6_fewest_30 ?_
    exact x_iret C E dX6_fewest_32 (hE (-1000000) (Option.some.inj h).symm)
  · have h := ifN h c4
    refine x_iload_n C (i := 2) dX6_fewest_24 rfl rfl ?_
    refine x_iload C (i := 4) dX6_fewest_25 rfl ?_
    refine x_icmp_lt C (tgt := 33) dX6_fewest_27 (by decide) (fun c5 => ?_) (fun c5 => ?_)
    · have h := ifP h c5
      refine x_iload_n C (i := 2) dX6_fewest_33 rfl rfl ?_
      refine x_if_ge C (tgt := 40) dX6_fewest_34 (by decide) (fun c6 => ?_) (fun c6 => ?_)
      · have h := ifP h c6
        refine x_iload C (i := 4) dX6_fewest_40 rfl ?_
        refine x_iconst C (v := 1) dX6_fewest_42 (by decide) ?_
        refine x_isub C dX6_fewest_43 ?_
        refine x_istore C (i := 5) (lo' := [some (.ref t0), some (.int p1), some (.int p2), some (.int r1), some (.int x3), some (.int (x3 - 1))]) dX6_fewest_44 (by decide) rfl rfl ?_
        obtain ⟨z10, ez10, h⟩ := ob h
        refine x_wk [true, false, true, true, false, true] (lo' := [some (.ref t0), none, some (.int p2), some (.int r1), none, some (.int (x3 - 1))]) rfl ?_
        refine lp_X6_fewest_46 C Z σ t0 p2 ?_ _ r1 (x3 - 1) ez10
        refine x_aload_n C (i := 0) dX6_fewest_65 rfl rfl ?_
        obtain ⟨x11, ex11, h⟩ := ob h
        refine x_getR C fl_X6_25 dX6_fewest_66 ex11 ?_
        refine x_iload_n C (i := 3) dX6_fewest_69 rfl rfl ?_
        obtain ⟨x12, ex12, h⟩ := ob h
        refine x_iald C dX6_fewest_70 ex12 ?_
        refine x_istore C (i := 5) (lo' := [some (.ref t0), none, none, some (.int z10), none, some (.int x12)]) dX6_fewest_71 (by decide) rfl rfl ?_
        refine x_bipush C (v := 10) dX6_fewest_73 (by decide) ?_
        refine x_iload C (i := 5) dX6_fewest_75 rfl ?_
        refine x_iconst C (v := 2) dX6_fewest_77 (by decide) ?_
        refine x_ishr C dX6_fewest_78 ?_
        refine x_imul C dX6_fewest_79 ?_
        refine x_iload C (i := 5) dX6_fewest_80 rfl ?_
        refine x_iconst C (v := 3) dX6_fewest_82 (by decide) ?_
        refine x_iand C dX6_fewest_83 ?_
        refine x_iadd C dX6_fewest_84 ?_
        exact x_iret C E dX6_fewest_85 (hE (((10 : Int32) * (x12 >>> (2 &&& 31))) + (x12 &&& 3)) (Option.some.inj h).symm)
      · have h := ifN h c6
        refine x_iload C (i := 4) dX6_fewest_37 rfl ?_
        exact x_iret C E dX6_fewest_39 (hE x3 (Option.some.inj h).symm)
    · have h := ifN h c5
      refine x_ldc C kc_X6_57 dX6_fewest_30 ?_
      exact x_iret C E dX6_fewest_32 (hE (-1000000) (Option.some.inj h).symm)
theorem dX7_take_0 : decode cX7_take 0 = .ok (.aload_n 0, 1) := by decide +kernel
theorem dX7_take_1 : decode cX7_take 1 = .ok (.getfield 15, 3) := by decide +kernel
theorem dX7_take_4 : decode cX7_take 4 = .ok (.bipush 60, 2) := by decide +kernel
theorem dX7_take_6 : decode cX7_take 6 = .ok (.if_icmp .lt 5, 3) := by decide +kernel
theorem dX7_take_9 : decode cX7_take 9 = .ok (.iconst 0, 1) := by decide +kernel
theorem dX7_take_10 : decode cX7_take 10 = .ok (.ireturn, 1) := by decide +kernel
theorem dX7_take_11 : decode cX7_take 11 = .ok (.aload_n 0, 1) := by decide +kernel
theorem dX7_take_12 : decode cX7_take 12 = .ok (.getfield 9, 3) := by decide +kernel
theorem dX7_take_15 : decode cX7_take 15 = .ok (.aload_n 0, 1) := by decide +kernel
theorem dX7_take_16 : decode cX7_take 16 = .ok (.getfield 15, 3) := by decide +kernel
theorem dX7_take_19 : decode cX7_take 19 = .ok (.iload_n 1, 1) := by decide +kernel
theorem dX7_take_20 : decode cX7_take 20 = .ok (.iastore, 1) := by decide +kernel
theorem dX7_take_21 : decode cX7_take 21 = .ok (.aload_n 0, 1) := by decide +kernel
theorem dX7_take_22 : decode cX7_take 22 = .ok (.dup, 1) := by decide +kernel
theorem dX7_take_23 : decode cX7_take 23 = .ok (.getfield 15, 3) := by decide +kernel
theorem dX7_take_26 : decode cX7_take 26 = .ok (.iconst 1, 1) := by decide +kernel
theorem dX7_take_27 : decode cX7_take 27 = .ok (.iadd, 1) := by decide +kernel
theorem dX7_take_28 : decode cX7_take 28 = .ok (.putfield 15, 3) := by decide +kernel
theorem dX7_take_31 : decode cX7_take 31 = .ok (.iconst 1, 1) := by decide +kernel
theorem dX7_take_32 : decode cX7_take 32 = .ok (.ireturn, 1) := by decide +kernel
def m_X7_take (N : Nat) (σ : Hp) (t0 : Nat) (p1 : Int32) : Option (Int32 × Hp) :=
  (rv N σ t0 7).bind fun _ =>
  (gI N σ t0 7 1).bind fun x1 =>
  if x1 < 60 then
   (gR N σ t0 7 0).bind fun x3 =>
  (gI N σ t0 7 1).bind fun x4 =>
  (sI 0 N σ x3 x4 p1).bind fun σ5 =>
  (gI N σ5 t0 7 1).bind fun x6 =>
  (pV N σ5 t0 7 1 (.int (x6 + 1))).bind fun σ7 =>
  some (1, σ7)
  else
   some (0, σ)
set_option maxHeartbeats 4000000 in
set_option maxRecDepth 100000 in
theorem ct_X7_take {l : Launch} {D : va_G} {cy : Nat → Nat} {N : Nat} {σ : Hp} {t0 : Nat} {p1 : Int32} {r : Int32 × Hp} (h : m_X7_take N σ t0 p1 = some r) : Ct l D cy yX7_take cX7_take 2 (some .boolean) 0 [.ref t0, .int p1] N σ (fun v s' => v = (some (.int r.1)) ∧ s' = r.2) := by
  refine Ct.intro [some (.ref t0), some (.int p1)] (by decide) rfl (Nat.le_of_ble_eq_true rfl) ?_
  intro κ ω e1 e2 e3 e4 C Z E
  subst e1; subst e2; subst e3; subst e4
  have C : Cx κ 2 0 cX7_take RX7 "take" := C
  have hE : ∀ x : Int32 × Hp, r = x → ((some (Value.int x.1)) = (some (Value.int r.1)) ∧ x.2 = r.2) := fun x hx => by subst hx; exact ⟨rfl, rfl⟩
  unfold m_X7_take at h
  obtain ⟨_, _, h⟩ := ob h
  refine x_aload_n C (i := 0) dX7_take_0 rfl rfl ?_
  obtain ⟨x1, ex1, h⟩ := ob h
  refine x_getI C fl_X7_15 dX7_take_1 ex1 ?_
  refine x_bipush C (v := 60) dX7_take_4 (by decide) ?_
  refine x_icmp_lt C (tgt := 11) dX7_take_6 (by decide) (fun c2 => ?_) (fun c2 => ?_)
  · have h := ifP h c2
    refine x_aload_n C (i := 0) dX7_take_11 rfl rfl ?_
    obtain ⟨x3, ex3, h⟩ := ob h
    refine x_getR C fl_X7_9 dX7_take_12 ex3 ?_
    refine x_aload_n C (i := 0) dX7_take_15 rfl rfl ?_
    obtain ⟨x4, ex4, h⟩ := ob h
    refine x_getI C fl_X7_15 dX7_take_16 ex4 ?_
    refine x_iload_n C (i := 1) dX7_take_19 rfl rfl ?_
    obtain ⟨σ5, eσ5, h⟩ := ob h
    refine x_iast C dX7_take_20 eσ5 ?_
    refine x_aload_n C (i := 0) dX7_take_21 rfl rfl ?_
    refine x_dup C dX7_take_22 rfl ?_
    obtain ⟨x6, ex6, h⟩ := ob h
    refine x_getI C fl_X7_15 dX7_take_23 ex6 ?_
    refine x_iconst C (v := 1) dX7_take_26 (by decide) ?_
    refine x_iadd C dX7_take_27 ?_
    obtain ⟨σ7, eσ7, h⟩ := ob h
    refine x_put C pl_X7_15 dX7_take_28 (fun _ => ⟨rfl, rfl⟩) eσ7 ?_
    refine x_iconst C (v := 1) dX7_take_31 (by decide) ?_
    exact x_zret C E (by decide +kernel) dX7_take_32 (hE (1, σ7) (Option.some.inj h).symm)
  · have h := ifN h c2
    refine x_iconst C (v := 0) dX7_take_9 (by decide) ?_
    exact x_zret C E (by decide +kernel) dX7_take_10 (hE (0, σ) (Option.some.inj h).symm)
theorem dX7_byteAt_0 : decode cX7_byteAt 0 = .ok (.iload_n 1, 1) := by decide +kernel
theorem dX7_byteAt_1 : decode cX7_byteAt 1 = .ok (.ifCond .lt 11, 3) := by decide +kernel
theorem dX7_byteAt_4 : decode cX7_byteAt 4 = .ok (.iload_n 1, 1) := by decide +kernel
theorem dX7_byteAt_5 : decode cX7_byteAt 5 = .ok (.aload_n 0, 1) := by decide +kernel
theorem dX7_byteAt_6 : decode cX7_byteAt 6 = .ok (.getfield 15, 3) := by decide +kernel
theorem dX7_byteAt_9 : decode cX7_byteAt 9 = .ok (.if_icmp .lt 7, 3) := by decide +kernel
theorem dX7_byteAt_12 : decode cX7_byteAt 12 = .ok (.iconst (-1), 1) := by decide +kernel
theorem dX7_byteAt_13 : decode cX7_byteAt 13 = .ok (.goto 9, 3) := by decide +kernel
theorem dX7_byteAt_16 : decode cX7_byteAt 16 = .ok (.aload_n 0, 1) := by decide +kernel
theorem dX7_byteAt_17 : decode cX7_byteAt 17 = .ok (.getfield 9, 3) := by decide +kernel
theorem dX7_byteAt_20 : decode cX7_byteAt 20 = .ok (.iload_n 1, 1) := by decide +kernel
theorem dX7_byteAt_21 : decode cX7_byteAt 21 = .ok (.iaload, 1) := by decide +kernel
theorem dX7_byteAt_22 : decode cX7_byteAt 22 = .ok (.ireturn, 1) := by decide +kernel
def m_X7_byteAt (N : Nat) (σ : Hp) (t0 : Nat) (p1 : Int32) : Option (Int32) :=
  (rv N σ t0 7).bind fun _ =>
  if p1 < 0 then
   some (-1)
  else
   (gI N σ t0 7 1).bind fun x2 =>
  if p1 < x2 then
   (gR N σ t0 7 0).bind fun x4 =>
  (aI 0 N σ x4 p1).bind fun x5 =>
  some x5
  else
   some (-1)
set_option maxHeartbeats 4000000 in
set_option maxRecDepth 100000 in
theorem ct_X7_byteAt {l : Launch} {D : va_G} {cy : Nat → Nat} {N : Nat} {σ : Hp} {t0 : Nat} {p1 : Int32} {r : Int32} (h : m_X7_byteAt N σ t0 p1 = some r) : Ct l D cy yX7_byteAt cX7_byteAt 2 (some .int) 0 [.ref t0, .int p1] N σ (fun v s' => v = (some (.int r)) ∧ s' = σ) := by
  refine Ct.intro [some (.ref t0), some (.int p1)] (by decide) rfl (Nat.le_of_ble_eq_true rfl) ?_
  intro κ ω e1 e2 e3 e4 C Z E
  subst e1; subst e2; subst e3; subst e4
  have C : Cx κ 2 0 cX7_byteAt RX7 "byteAt" := C
  have hE : ∀ x : Int32, r = x → ((some (Value.int x)) = (some (Value.int r)) ∧ σ = σ) := fun x hx => by subst hx; exact ⟨rfl, rfl⟩
  unfold m_X7_byteAt at h
  obtain ⟨_, _, h⟩ := ob h
  refine x_iload_n C (i := 1) dX7_byteAt_0 rfl rfl ?_
  refine x_if_lt C (tgt := 12) dX7_byteAt_1 (by decide) (fun c1 => ?_) (fun c1 => ?_)
  · have h := ifP h c1
    refine x_iconst C (v := (-1)) dX7_byteAt_12 (by decide) ?_
    refine x_goto C (tgt := 22) dX7_byteAt_13 (by decide) ?_
    exact x_iret C E dX7_byteAt_22 (hE (-1) (Option.some.inj h).symm)
  · have h := ifN h c1
    refine x_iload_n C (i := 1) dX7_byteAt_4 rfl rfl ?_
    refine x_aload_n C (i := 0) dX7_byteAt_5 rfl rfl ?_
    obtain ⟨x2, ex2, h⟩ := ob h
    refine x_getI C fl_X7_15 dX7_byteAt_6 ex2 ?_
    refine x_icmp_lt C (tgt := 16) dX7_byteAt_9 (by decide) (fun c3 => ?_) (fun c3 => ?_)
    · have h := ifP h c3
      refine x_aload_n C (i := 0) dX7_byteAt_16 rfl rfl ?_
      obtain ⟨x4, ex4, h⟩ := ob h
      refine x_getR C fl_X7_9 dX7_byteAt_17 ex4 ?_
      refine x_iload_n C (i := 1) dX7_byteAt_20 rfl rfl ?_
      obtain ⟨x5, ex5, h⟩ := ob h
      refine x_iald C dX7_byteAt_21 ex5 ?_
      exact x_iret C E dX7_byteAt_22 (hE x5 (Option.some.inj h).symm)
    · have h := ifN h c3
      refine x_iconst C (v := (-1)) dX7_byteAt_12 (by decide) ?_
      refine x_goto C (tgt := 22) dX7_byteAt_13 (by decide) ?_
      exact x_iret C E dX7_byteAt_22 (hE (-1) (Option.some.inj h).symm)
theorem dX7_faulty_0 : decode cX7_faulty 0 = .ok (.aload_n 0, 1) := by decide +kernel
theorem dX7_faulty_1 : decode cX7_faulty 1 = .ok (.iload_n 1, 1) := by decide +kernel
theorem dX7_faulty_2 : decode cX7_faulty 2 = .ok (.putfield 74, 3) := by decide +kernel
theorem dX7_faulty_5 : decode cX7_faulty 5 = .ok (.iconst 0, 1) := by decide +kernel
theorem dX7_faulty_6 : decode cX7_faulty 6 = .ok (.ireturn, 1) := by decide +kernel
def m_X7_faulty (N : Nat) (σ : Hp) (t0 : Nat) (p1 : Int32) : Option (Int32 × Hp) :=
  (rv N σ t0 7).bind fun _ =>
  (pV N σ t0 7 3 (.int p1)).bind fun σ1 =>
  some (0, σ1)
set_option maxHeartbeats 4000000 in
set_option maxRecDepth 100000 in
theorem ct_X7_faulty {l : Launch} {D : va_G} {cy : Nat → Nat} {N : Nat} {σ : Hp} {t0 : Nat} {p1 : Int32} {r : Int32 × Hp} (h : m_X7_faulty N σ t0 p1 = some r) : Ct l D cy yX7_faulty cX7_faulty 2 (some .boolean) 0 [.ref t0, .int p1] N σ (fun v s' => v = (some (.int r.1)) ∧ s' = r.2) := by
  refine Ct.intro [some (.ref t0), some (.int p1)] (by decide) rfl (Nat.le_of_ble_eq_true rfl) ?_
  intro κ ω e1 e2 e3 e4 C Z E
  subst e1; subst e2; subst e3; subst e4
  have C : Cx κ 2 0 cX7_faulty RX7 "faulty" := C
  have hE : ∀ x : Int32 × Hp, r = x → ((some (Value.int x.1)) = (some (Value.int r.1)) ∧ x.2 = r.2) := fun x hx => by subst hx; exact ⟨rfl, rfl⟩
  unfold m_X7_faulty at h
  obtain ⟨_, _, h⟩ := ob h
  refine x_aload_n C (i := 0) dX7_faulty_0 rfl rfl ?_
  refine x_iload_n C (i := 1) dX7_faulty_1 rfl rfl ?_
  obtain ⟨σ1, eσ1, h⟩ := ob h
  refine x_put C pl_X7_74 dX7_faulty_2 (fun _ => ⟨rfl, rfl⟩) eσ1 ?_
  refine x_iconst C (v := 0) dX7_faulty_5 (by decide) ?_
  exact x_zret C E (by decide +kernel) dX7_faulty_6 (hE (0, σ1) (Option.some.inj h).symm)
theorem dX7_passes_0 : decode cX7_passes 0 = .ok (.aload_n 0, 1) := by decide +kernel
theorem dX7_passes_1 : decode cX7_passes 1 = .ok (.aload_n 0, 1) := by decide +kernel
theorem dX7_passes_2 : decode cX7_passes 2 = .ok (.getfield 19, 3) := by decide +kernel
theorem dX7_passes_5 : decode cX7_passes 5 = .ok (.invokevirtual 51, 3) := by decide +kernel
theorem dX7_passes_8 : decode cX7_passes 8 = .ok (.iload_n 1, 1) := by decide +kernel
theorem dX7_passes_9 : decode cX7_passes 9 = .ok (.if_icmp .eq 9, 3) := by decide +kernel
theorem dX7_passes_12 : decode cX7_passes 12 = .ok (.aload_n 0, 1) := by decide +kernel
theorem dX7_passes_13 : decode cX7_passes 13 = .ok (.iconst 1, 1) := by decide +kernel
theorem dX7_passes_14 : decode cX7_passes 14 = .ok (.invokevirtual 58, 3) := by decide +kernel
theorem dX7_passes_17 : decode cX7_passes 17 = .ok (.ireturn, 1) := by decide +kernel
theorem dX7_passes_18 : decode cX7_passes 18 = .ok (.aload_n 0, 1) := by decide +kernel
theorem dX7_passes_19 : decode cX7_passes 19 = .ok (.dup, 1) := by decide +kernel
theorem dX7_passes_20 : decode cX7_passes 20 = .ok (.getfield 19, 3) := by decide +kernel
theorem dX7_passes_23 : decode cX7_passes 23 = .ok (.iconst 1, 1) := by decide +kernel
theorem dX7_passes_24 : decode cX7_passes 24 = .ok (.iadd, 1) := by decide +kernel
theorem dX7_passes_25 : decode cX7_passes 25 = .ok (.putfield 19, 3) := by decide +kernel
theorem dX7_passes_28 : decode cX7_passes 28 = .ok (.iconst 1, 1) := by decide +kernel
theorem dX7_passes_29 : decode cX7_passes 29 = .ok (.ireturn, 1) := by decide +kernel
def m_X7_passes (N : Nat) (σ : Hp) (t0 : Nat) (p1 : Int32) : Option (Int32 × Hp) :=
  (rv N σ t0 7).bind fun _ =>
  (gI N σ t0 7 2).bind fun x1 =>
  (m_X7_byteAt N σ t0 x1).bind fun r2 =>
  if r2 = p1 then
   (gI N σ t0 7 2).bind fun x4 =>
  (pV N σ t0 7 2 (.int (x4 + 1))).bind fun σ5 =>
  some (1, σ5)
  else
   (m_X7_faulty N σ t0 1).bind fun r6 =>
  (zb r6.1).bind fun u7 =>
  some (r6.1, r6.2)
set_option maxHeartbeats 4000000 in
set_option maxRecDepth 100000 in
theorem ct_X7_passes {l : Launch} {D : va_G} {cy : Nat → Nat} {N : Nat} {σ : Hp} {t0 : Nat} {p1 : Int32} {r : Int32 × Hp} (h : m_X7_passes N σ t0 p1 = some r) : Ct l D cy yX7_passes cX7_passes 2 (some .boolean) 1 [.ref t0, .int p1] N σ (fun v s' => v = (some (.int r.1)) ∧ s' = r.2) := by
  refine Ct.intro [some (.ref t0), some (.int p1)] (by decide) rfl (Nat.le_of_ble_eq_true rfl) ?_
  intro κ ω e1 e2 e3 e4 C Z E
  subst e1; subst e2; subst e3; subst e4
  have C : Cx κ 2 1 cX7_passes RX7 "passes" := C
  have hE : ∀ x : Int32 × Hp, r = x → ((some (Value.int x.1)) = (some (Value.int r.1)) ∧ x.2 = r.2) := fun x hx => by subst hx; exact ⟨rfl, rfl⟩
  unfold m_X7_passes at h
  obtain ⟨_, _, h⟩ := ob h
  refine x_aload_n C (i := 0) dX7_passes_0 rfl rfl ?_
  refine x_aload_n C (i := 0) dX7_passes_1 rfl rfl ?_
  obtain ⟨x1, ex1, h⟩ := ob h
  refine x_getI C fl_X7_19 dX7_passes_2 ex1 ?_
  obtain ⟨r2, er2, h⟩ := ob h
  refine x_callVr C Z mv_X7_byteAt lk_X7_51 (rv_h er2) (ct_X7_byteAt er2) (by decide) rfl rfl (Nat.le_of_ble_eq_true rfl) dX7_passes_5 ?_
  refine x_iload_n C (i := 1) dX7_passes_8 rfl rfl ?_
  refine x_icmp_eq C (tgt := 18) dX7_passes_9 (by decide) (fun c3 => ?_) (fun c3 => ?_)
  · have h := ifP h c3
    refine x_aload_n C (i := 0) dX7_passes_18 rfl rfl ?_
    refine x_dup C dX7_passes_19 rfl ?_
    obtain ⟨x4, ex4, h⟩ := ob h
    refine x_getI C fl_X7_19 dX7_passes_20 ex4 ?_
    refine x_iconst C (v := 1) dX7_passes_23 (by decide) ?_
    refine x_iadd C dX7_passes_24 ?_
    obtain ⟨σ5, eσ5, h⟩ := ob h
    refine x_put C pl_X7_19 dX7_passes_25 (fun _ => ⟨rfl, rfl⟩) eσ5 ?_
    refine x_iconst C (v := 1) dX7_passes_28 (by decide) ?_
    exact x_zret C E (by decide +kernel) dX7_passes_29 (hE (1, σ5) (Option.some.inj h).symm)
  · have h := ifN h c3
    refine x_aload_n C (i := 0) dX7_passes_12 rfl rfl ?_
    refine x_iconst C (v := 1) dX7_passes_13 (by decide) ?_
    obtain ⟨r6, er6, h⟩ := ob h
    refine x_callVr C Z mv_X7_faulty lk_X7_58 (rv_h er6) (ct_X7_faulty er6) (by decide) rfl rfl (Nat.le_of_ble_eq_true rfl) dX7_passes_14 ?_
    obtain ⟨u7, eu7, h⟩ := ob h
    exact x_zret C E (zb_n eu7) dX7_passes_17 (hE (r6.1, r6.2) (Option.some.inj h).symm)
theorem dX7_isFigure_0 : decode cX7_isFigure 0 = .ok (.iload_n 0, 1) := by decide +kernel
theorem dX7_isFigure_1 : decode cX7_isFigure 1 = .ok (.bipush 48, 2) := by decide +kernel
theorem dX7_isFigure_3 : decode cX7_isFigure 3 = .ok (.if_icmp .lt 13, 3) := by decide +kernel
theorem dX7_isFigure_6 : decode cX7_isFigure 6 = .ok (.iload_n 0, 1) := by decide +kernel
theorem dX7_isFigure_7 : decode cX7_isFigure 7 = .ok (.bipush 57, 2) := by decide +kernel
theorem dX7_isFigure_9 : decode cX7_isFigure 9 = .ok (.if_icmp .gt 7, 3) := by decide +kernel
theorem dX7_isFigure_12 : decode cX7_isFigure 12 = .ok (.iconst 1, 1) := by decide +kernel
theorem dX7_isFigure_13 : decode cX7_isFigure 13 = .ok (.goto 4, 3) := by decide +kernel
theorem dX7_isFigure_16 : decode cX7_isFigure 16 = .ok (.iconst 0, 1) := by decide +kernel
theorem dX7_isFigure_17 : decode cX7_isFigure 17 = .ok (.ireturn, 1) := by decide +kernel
def m_X7_isFigure (p0 : Int32) : Option (Int32) :=
  if p0 < 48 then
   some 0
  else
   if 57 < p0 then
   some 0
  else
   some 1
set_option maxHeartbeats 4000000 in
set_option maxRecDepth 100000 in
theorem ct_X7_isFigure {l : Launch} {D : va_G} {cy : Nat → Nat} {N : Nat} {σ : Hp} {p0 : Int32} {r : Int32} (h : m_X7_isFigure p0 = some r) : Ct l D cy yX7_isFigure cX7_isFigure 1 (some .boolean) 0 [.int p0] N σ (fun v s' => v = (some (.int r)) ∧ s' = σ) := by
  refine Ct.intro [some (.int p0)] (by decide) rfl (Nat.le_of_ble_eq_true rfl) ?_
  intro κ ω e1 e2 e3 e4 C Z E
  subst e1; subst e2; subst e3; subst e4
  have C : Cx κ 1 0 cX7_isFigure RX7 "isFigure" := C
  have hE : ∀ x : Int32, r = x → ((some (Value.int x)) = (some (Value.int r)) ∧ σ = σ) := fun x hx => by subst hx; exact ⟨rfl, rfl⟩
  unfold m_X7_isFigure at h
  refine x_iload_n C (i := 0) dX7_isFigure_0 rfl rfl ?_
  refine x_bipush C (v := 48) dX7_isFigure_1 (by decide) ?_
  refine x_icmp_lt C (tgt := 16) dX7_isFigure_3 (by decide) (fun c1 => ?_) (fun c1 => ?_)
  · have h := ifP h c1
    refine x_iconst C (v := 0) dX7_isFigure_16 (by decide) ?_
    exact x_zret C E (by decide +kernel) dX7_isFigure_17 (hE 0 (Option.some.inj h).symm)
  · have h := ifN h c1
    refine x_iload_n C (i := 0) dX7_isFigure_6 rfl rfl ?_
    refine x_bipush C (v := 57) dX7_isFigure_7 (by decide) ?_
    refine x_icmp_gt C (tgt := 16) dX7_isFigure_9 (by decide) (fun c2 => ?_) (fun c2 => ?_)
    · have h := ifP h c2
      refine x_iconst C (v := 0) dX7_isFigure_16 (by decide) ?_
      exact x_zret C E (by decide +kernel) dX7_isFigure_17 (hE 0 (Option.some.inj h).symm)
    · have h := ifN h c2
      refine x_iconst C (v := 1) dX7_isFigure_12 (by decide) ?_
      refine x_goto C (tgt := 17) dX7_isFigure_13 (by decide) ?_
      exact x_zret C E (by decide +kernel) dX7_isFigure_17 (hE 1 (Option.some.inj h).symm)
theorem dX7_readNumber_0 : decode cX7_readNumber 0 = .ok (.iconst 0, 1) := by decide +kernel
theorem dX7_readNumber_1 : decode cX7_readNumber 1 = .ok (.istore_n 3, 1) := by decide +kernel
theorem dX7_readNumber_2 : decode cX7_readNumber 2 = .ok (.aload_n 0, 1) := by decide +kernel
theorem dX7_readNumber_3 : decode cX7_readNumber 3 = .ok (.iconst 0, 1) := by decide +kernel
theorem dX7_readNumber_4 : decode cX7_readNumber 4 = .ok (.putfield 42, 3) := by decide +kernel
theorem dX7_readNumber_7 : decode cX7_readNumber 7 = .ok (.iload_n 3, 1) := by decide +kernel
theorem dX7_readNumber_8 : decode cX7_readNumber 8 = .ok (.iconst 3, 1) := by decide +kernel
theorem dX7_readNumber_9 : decode cX7_readNumber 9 = .ok (.if_icmp .ge 50, 3) := by decide +kernel
theorem dX7_readNumber_12 : decode cX7_readNumber 12 = .ok (.aload_n 0, 1) := by decide +kernel
theorem dX7_readNumber_13 : decode cX7_readNumber 13 = .ok (.aload_n 0, 1) := by decide +kernel
theorem dX7_readNumber_14 : decode cX7_readNumber 14 = .ok (.getfield 19, 3) := by decide +kernel
theorem dX7_readNumber_17 : decode cX7_readNumber 17 = .ok (.iload_n 3, 1) := by decide +kernel
theorem dX7_readNumber_18 : decode cX7_readNumber 18 = .ok (.iadd, 1) := by decide +kernel
theorem dX7_readNumber_19 : decode cX7_readNumber 19 = .ok (.invokevirtual 51, 3) := by decide +kernel
theorem dX7_readNumber_22 : decode cX7_readNumber 22 = .ok (.invokestatic 71, 3) := by decide +kernel
theorem dX7_readNumber_25 : decode cX7_readNumber 25 = .ok (.ifCond .eq 34, 3) := by decide +kernel
theorem dX7_readNumber_28 : decode cX7_readNumber 28 = .ok (.aload_n 0, 1) := by decide +kernel
theorem dX7_readNumber_29 : decode cX7_readNumber 29 = .ok (.bipush 10, 2) := by decide +kernel
theorem dX7_readNumber_31 : decode cX7_readNumber 31 = .ok (.aload_n 0, 1) := by decide +kernel
theorem dX7_readNumber_32 : decode cX7_readNumber 32 = .ok (.getfield 42, 3) := by decide +kernel
theorem dX7_readNumber_35 : decode cX7_readNumber 35 = .ok (.imul, 1) := by decide +kernel
theorem dX7_readNumber_36 : decode cX7_readNumber 36 = .ok (.aload_n 0, 1) := by decide +kernel
theorem dX7_readNumber_37 : decode cX7_readNumber 37 = .ok (.aload_n 0, 1) := by decide +kernel
theorem dX7_readNumber_38 : decode cX7_readNumber 38 = .ok (.getfield 19, 3) := by decide +kernel
theorem dX7_readNumber_41 : decode cX7_readNumber 41 = .ok (.iload_n 3, 1) := by decide +kernel
theorem dX7_readNumber_42 : decode cX7_readNumber 42 = .ok (.iadd, 1) := by decide +kernel
theorem dX7_readNumber_43 : decode cX7_readNumber 43 = .ok (.invokevirtual 51, 3) := by decide +kernel
theorem dX7_readNumber_46 : decode cX7_readNumber 46 = .ok (.iadd, 1) := by decide +kernel
theorem dX7_readNumber_47 : decode cX7_readNumber 47 = .ok (.bipush 48, 2) := by decide +kernel
theorem dX7_readNumber_49 : decode cX7_readNumber 49 = .ok (.isub, 1) := by decide +kernel
theorem dX7_readNumber_50 : decode cX7_readNumber 50 = .ok (.putfield 42, 3) := by decide +kernel
theorem dX7_readNumber_53 : decode cX7_readNumber 53 = .ok (.iinc 3 1, 3) := by decide +kernel
theorem dX7_readNumber_56 : decode cX7_readNumber 56 = .ok (.goto (-49), 3) := by decide +kernel
theorem dX7_readNumber_59 : decode cX7_readNumber 59 = .ok (.iload_n 3, 1) := by decide +kernel
theorem dX7_readNumber_60 : decode cX7_readNumber 60 = .ok (.ifCond .eq 8, 3) := by decide +kernel
theorem dX7_readNumber_63 : decode cX7_readNumber 63 = .ok (.iload_n 3, 1) := by decide +kernel
theorem dX7_readNumber_64 : decode cX7_readNumber 64 = .ok (.iconst 3, 1) := by decide +kernel
theorem dX7_readNumber_65 : decode cX7_readNumber 65 = .ok (.if_icmp .ne 9, 3) := by decide +kernel
theorem dX7_readNumber_68 : decode cX7_readNumber 68 = .ok (.aload_n 0, 1) := by decide +kernel
theorem dX7_readNumber_69 : decode cX7_readNumber 69 = .ok (.iconst 1, 1) := by decide +kernel
theorem dX7_readNumber_70 : decode cX7_readNumber 70 = .ok (.invokevirtual 58, 3) := by decide +kernel
theorem dX7_readNumber_73 : decode cX7_readNumber 73 = .ok (.ireturn, 1) := by decide +kernel
theorem dX7_readNumber_74 : decode cX7_readNumber 74 = .ok (.aload_n 0, 1) := by decide +kernel
theorem dX7_readNumber_75 : decode cX7_readNumber 75 = .ok (.getfield 42, 3) := by decide +kernel
theorem dX7_readNumber_78 : decode cX7_readNumber 78 = .ok (.iload_n 1, 1) := by decide +kernel
theorem dX7_readNumber_79 : decode cX7_readNumber 79 = .ok (.if_icmp .lt 11, 3) := by decide +kernel
theorem dX7_readNumber_82 : decode cX7_readNumber 82 = .ok (.aload_n 0, 1) := by decide +kernel
theorem dX7_readNumber_83 : decode cX7_readNumber 83 = .ok (.getfield 42, 3) := by decide +kernel
theorem dX7_readNumber_86 : decode cX7_readNumber 86 = .ok (.iload_n 2, 1) := by decide +kernel
theorem dX7_readNumber_87 : decode cX7_readNumber 87 = .ok (.if_icmp .le 9, 3) := by decide +kernel
theorem dX7_readNumber_90 : decode cX7_readNumber 90 = .ok (.aload_n 0, 1) := by decide +kernel
theorem dX7_readNumber_91 : decode cX7_readNumber 91 = .ok (.iconst 2, 1) := by decide +kernel
theorem dX7_readNumber_92 : decode cX7_readNumber 92 = .ok (.invokevirtual 58, 3) := by decide +kernel
theorem dX7_readNumber_95 : decode cX7_readNumber 95 = .ok (.ireturn, 1) := by decide +kernel
theorem dX7_readNumber_96 : decode cX7_readNumber 96 = .ok (.aload_n 0, 1) := by decide +kernel
theorem dX7_readNumber_97 : decode cX7_readNumber 97 = .ok (.dup, 1) := by decide +kernel
theorem dX7_readNumber_98 : decode cX7_readNumber 98 = .ok (.getfield 19, 3) := by decide +kernel
theorem dX7_readNumber_101 : decode cX7_readNumber 101 = .ok (.iload_n 3, 1) := by decide +kernel
theorem dX7_readNumber_102 : decode cX7_readNumber 102 = .ok (.iadd, 1) := by decide +kernel
theorem dX7_readNumber_103 : decode cX7_readNumber 103 = .ok (.putfield 19, 3) := by decide +kernel
theorem dX7_readNumber_106 : decode cX7_readNumber 106 = .ok (.iconst 1, 1) := by decide +kernel
theorem dX7_readNumber_107 : decode cX7_readNumber 107 = .ok (.ireturn, 1) := by decide +kernel
def L_X7_readNumber_7 (N : Nat) (v0 : Nat) (v1 : Int32) (v2 : Int32) : Nat → Hp → Int32 → Option (Int32 × Hp)
  | 0, _, _ => none
  | n + 1, σ, v3 =>
  if 3 ≤ v3 then
   some (v3, σ)
  else
   (gI N σ v0 7 2).bind fun x3 =>
  (m_X7_byteAt N σ v0 (x3 + v3)).bind fun r4 =>
  (m_X7_isFigure r4).bind fun r5 =>
  if r5 = 0 then
   some (v3, σ)
  else
   (gI N σ v0 7 4).bind fun x7 =>
  (gI N σ v0 7 2).bind fun x8 =>
  (m_X7_byteAt N σ v0 (x8 + v3)).bind fun r9 =>
  (pV N σ v0 7 4 (.int ((((10 : Int32) * x7) + r9) - 48))).bind fun σ10 =>
  L_X7_readNumber_7 N v0 v1 v2 n σ10 (v3 + 1)
def m_X7_readNumber (N : Nat) (σ : Hp) (t0 : Nat) (p1 : Int32) (p2 : Int32) : Option (Int32 × Hp) :=
  (rv N σ t0 7).bind fun _ =>
  (pV N σ t0 7 4 (.int 0)).bind fun σ1 =>
  (L_X7_readNumber_7 N t0 p1 p2 fu σ1 0).bind fun z11 =>
  if z11.1 = 0 then
   (m_X7_faulty N z11.2 t0 1).bind fun r13 =>
  (zb r13.1).bind fun u14 =>
  some (r13.1, r13.2)
  else
   if z11.1 = 3 then
   (m_X7_faulty N z11.2 t0 1).bind fun r26 =>
  (zb r26.1).bind fun u27 =>
  some (r26.1, r26.2)
  else
   (gI N z11.2 t0 7 4).bind fun x16 =>
  if x16 < p1 then
   (m_X7_faulty N z11.2 t0 2).bind fun r18 =>
  (zb r18.1).bind fun u19 =>
  some (r18.1, r18.2)
  else
   (gI N z11.2 t0 7 4).bind fun x20 =>
  if x20 ≤ p2 then
   (gI N z11.2 t0 7 2).bind fun x22 =>
  (pV N z11.2 t0 7 2 (.int (x22 + z11.1))).bind fun σ23 =>
  some (1, σ23)
  else
   (m_X7_faulty N z11.2 t0 2).bind fun r24 =>
  (zb r24.1).bind fun u25 =>
  some (r24.1, r24.2)
set_option maxHeartbeats 4000000 in
set_option maxRecDepth 100000 in
theorem lp_X7_readNumber_7 {κ : Kx} {ω : Om} (C : Cx κ 4 1 cX7_readNumber RX7 "readNumber") (Z : Zx κ ω) (v0 : Nat) (v1 : Int32) (v2 : Int32) {r : Int32 × Hp} (hk : X κ 4 ω 59 [some (.ref v0), some (.int v1), some (.int v2), some (.int r.1)] [] r.2) : ∀ (n : Nat) (σ : Hp) (v3 : Int32), L_X7_readNumber_7 ω.1 v0 v1 v2 n σ v3 = some r → X κ 4 ω 7 [some (.ref v0), some (.int v1), some (.int v2), some (.int v3)] [] σ := by
  intro n
  induction n with
  | zero => intro σ v3 h; cases h
  | succ n ih =>
    intro σ v3 h
    rw [L_X7_readNumber_7.eq_2] at h
    refine x_iload_n C (i := 3) dX7_readNumber_7 rfl rfl ?_
    refine x_iconst C (v := 3) dX7_readNumber_8 (by decide) ?_
    refine x_icmp_ge C (tgt := 59) dX7_readNumber_9 (by decide) (fun c2 => ?_) (fun c2 => ?_)
    · have h := ifP h c2
      refine x_wk [true, true, true, true] (lo' := [some (.ref v0), some (.int v1), some (.int v2), some (.int v3)]) rfl ?_
      obtain rfl := Option.some.inj h
      exact hk
    · have h := ifN h c2
      refine x_aload_n C (i := 0) dX7_readNumber_12 rfl rfl ?_
      refine x_aload_n C (i := 0) dX7_readNumber_13 rfl rfl ?_
      obtain ⟨x3, ex3, h⟩ := ob h
      refine x_getI C fl_X7_19 dX7_readNumber_14 ex3 ?_
      refine x_iload_n C (i := 3) dX7_readNumber_17 rfl rfl ?_
      refine x_iadd C dX7_readNumber_18 ?_
      obtain ⟨r4, er4, h⟩ := ob h
      refine x_callVr C Z mv_X7_byteAt lk_X7_51 (rv_h er4) (ct_X7_byteAt er4) (by decide) rfl rfl (Nat.le_of_ble_eq_true rfl) dX7_readNumber_19 ?_
      obtain ⟨r5, er5, h⟩ := ob h
      refine x_callSr C Z ms_X7_isFigure lk_X7_71 (ct_X7_isFigure (N := ω.1) (σ := σ) er5) (by decide) rfl rfl (Nat.le_of_ble_eq_true rfl) dX7_readNumber_22 ?_
      refine x_if_eq C (tgt := 59) dX7_readNumber_25 (by decide) (fun c6 => ?_) (fun c6 => ?_)
      · have h := ifP h c6
        refine x_wk [true, true, true, true] (lo' := [some (.ref v0), some (.int v1), some (.int v2), some (.int v3)]) rfl ?_
        obtain rfl := Option.some.inj h
        exact hk
      · have h := ifN h c6
        refine x_aload_n C (i := 0) dX7_readNumber_28 rfl rfl ?_
        refine x_bipush C (v := 10) dX7_readNumber_29 (by decide) ?_
        refine x_aload_n C (i := 0) dX7_readNumber_31 rfl rfl ?_
        obtain ⟨x7, ex7, h⟩ := ob h
        refine x_getI C fl_X7_42 dX7_readNumber_32 ex7 ?_
        refine x_imul C dX7_readNumber_35 ?_
        refine x_aload_n C (i := 0) dX7_readNumber_36 rfl rfl ?_
        refine x_aload_n C (i := 0) dX7_readNumber_37 rfl rfl ?_
        obtain ⟨x8, ex8, h⟩ := ob h
        refine x_getI C fl_X7_19 dX7_readNumber_38 ex8 ?_
        refine x_iload_n C (i := 3) dX7_readNumber_41 rfl rfl ?_
        refine x_iadd C dX7_readNumber_42 ?_
        obtain ⟨r9, er9, h⟩ := ob h
        refine x_callVr C Z mv_X7_byteAt lk_X7_51 (rv_h er9) (ct_X7_byteAt er9) (by decide) rfl rfl (Nat.le_of_ble_eq_true rfl) dX7_readNumber_43 ?_
        refine x_iadd C dX7_readNumber_46 ?_
        refine x_bipush C (v := 48) dX7_readNumber_47 (by decide) ?_
        refine x_isub C dX7_readNumber_49 ?_
        obtain ⟨σ10, eσ10, h⟩ := ob h
        refine x_put C pl_X7_42 dX7_readNumber_50 (fun _ => ⟨rfl, rfl⟩) eσ10 ?_
        refine x_iinc C (i := 3) (y := v3 + 1) (lo' := [some (.ref v0), some (.int v1), some (.int v2), some (.int (v3 + 1))]) dX7_readNumber_53 rfl rfl (by decide) rfl rfl ?_
        refine x_goto C (tgt := 7) dX7_readNumber_56 (by decide) ?_
        refine x_wk [true, true, true, true] (lo' := [some (.ref v0), some (.int v1), some (.int v2), some (.int (v3 + 1))]) rfl ?_
        exact ih σ10 (v3 + 1) h
set_option maxHeartbeats 4000000 in
set_option maxRecDepth 100000 in
theorem ct_X7_readNumber {l : Launch} {D : va_G} {cy : Nat → Nat} {N : Nat} {σ : Hp} {t0 : Nat} {p1 : Int32} {p2 : Int32} {r : Int32 × Hp} (h : m_X7_readNumber N σ t0 p1 p2 = some r) : Ct l D cy yX7_readNumber cX7_readNumber 4 (some .boolean) 1 [.ref t0, .int p1, .int p2] N σ (fun v s' => v = (some (.int r.1)) ∧ s' = r.2) := by
  refine Ct.intro [some (.ref t0), some (.int p1), some (.int p2), none] (by decide) rfl (Nat.le_of_ble_eq_true rfl) ?_
  intro κ ω e1 e2 e3 e4 C Z E
  subst e1; subst e2; subst e3; subst e4
  have C : Cx κ 4 1 cX7_readNumber RX7 "readNumber" := C
  have hE : ∀ x : Int32 × Hp, r = x → ((some (Value.int x.1)) = (some (Value.int r.1)) ∧ x.2 = r.2) := fun x hx => by subst hx; exact ⟨rfl, rfl⟩
  unfold m_X7_readNumber at h
  obtain ⟨_, _, h⟩ := ob h
  refine x_iconst C (v := 0) dX7_readNumber_0 (by decide) ?_
  refine x_istore_n C (i := 3) (lo' := [some (.ref t0), some (.int p1), some (.int p2), some (.int 0)]) dX7_readNumber_1 rfl (by decide) rfl rfl ?_
  refine x_aload_n C (i := 0) dX7_readNumber_2 rfl rfl ?_
  refine x_iconst C (v := 0) dX7_readNumber_3 (by decide) ?_
  obtain ⟨σ1, eσ1, h⟩ := ob h
  refine x_put C pl_X7_42 dX7_readNumber_4 (fun _ => ⟨rfl, rfl⟩) eσ1 ?_
  obtain ⟨z11, ez11, h⟩ := ob h
  refine x_wk [true, true, true, true] (lo' := [some (.ref t0), some (.int p1), some (.int p2), some (.int 0)]) rfl ?_
  refine lp_X7_readNumber_7 C Z t0 p1 p2 ?_ _ σ1 0 ez11
  refine x_iload_n C (i := 3) dX7_readNumber_59 rfl rfl ?_
  refine x_if_eq C (tgt := 68) dX7_readNumber_60 (by decide) (fun c12 => ?_) (fun c12 => ?_)
  · have h := ifP h c12
    refine x_aload_n C (i := 0) dX7_readNumber_68 rfl rfl ?_
    refine x_iconst C (v := 1) dX7_readNumber_69 (by decide) ?_
    obtain ⟨r13, er13, h⟩ := ob h
    refine x_callVr C Z mv_X7_faulty lk_X7_58 (rv_h er13) (ct_X7_faulty er13) (by decide) rfl rfl (Nat.le_of_ble_eq_true rfl) dX7_readNumber_70 ?_
    obtain ⟨u14, eu14, h⟩ := ob h
    exact x_zret C E (zb_n eu14) dX7_readNumber_73 (hE (r13.1, r13.2) (Option.some.inj h).symm)
  · have h := ifN h c12
    refine x_iload_n C (i := 3) dX7_readNumber_63 rfl rfl ?_
    refine x_iconst C (v := 3) dX7_readNumber_64 (by decide) ?_
    refine x_icmp_ne C (tgt := 74) dX7_readNumber_65 (by decide) (fun c15 => ?_) (fun c15 => ?_)
    · have h := ifN h c15
      refine x_aload_n C (i := 0) dX7_readNumber_74 rfl rfl ?_
      obtain ⟨x16, ex16, h⟩ := ob h
      refine x_getI C fl_X7_42 dX7_readNumber_75 ex16 ?_
      refine x_iload_n C (i := 1) dX7_readNumber_78 rfl rfl ?_
      refine x_icmp_lt C (tgt := 90) dX7_readNumber_79 (by decide) (fun c17 => ?_) (fun c17 => ?_)
      · have h := ifP h c17
        refine x_aload_n C (i := 0) dX7_readNumber_90 rfl rfl ?_
        refine x_iconst C (v := 2) dX7_readNumber_91 (by decide) ?_
        obtain ⟨r18, er18, h⟩ := ob h
        refine x_callVr C Z mv_X7_faulty lk_X7_58 (rv_h er18) (ct_X7_faulty er18) (by decide) rfl rfl (Nat.le_of_ble_eq_true rfl) dX7_readNumber_92 ?_
        obtain ⟨u19, eu19, h⟩ := ob h
        exact x_zret C E (zb_n eu19) dX7_readNumber_95 (hE (r18.1, r18.2) (Option.some.inj h).symm)
      · have h := ifN h c17
        refine x_aload_n C (i := 0) dX7_readNumber_82 rfl rfl ?_
        obtain ⟨x20, ex20, h⟩ := ob h
        refine x_getI C fl_X7_42 dX7_readNumber_83 ex20 ?_
        refine x_iload_n C (i := 2) dX7_readNumber_86 rfl rfl ?_
        refine x_icmp_le C (tgt := 96) dX7_readNumber_87 (by decide) (fun c21 => ?_) (fun c21 => ?_)
        · have h := ifP h c21
          refine x_aload_n C (i := 0) dX7_readNumber_96 rfl rfl ?_
          refine x_dup C dX7_readNumber_97 rfl ?_
          obtain ⟨x22, ex22, h⟩ := ob h
          refine x_getI C fl_X7_19 dX7_readNumber_98 ex22 ?_
          refine x_iload_n C (i := 3) dX7_readNumber_101 rfl rfl ?_
          refine x_iadd C dX7_readNumber_102 ?_
          obtain ⟨σ23, eσ23, h⟩ := ob h
          refine x_put C pl_X7_19 dX7_readNumber_103 (fun _ => ⟨rfl, rfl⟩) eσ23 ?_
          refine x_iconst C (v := 1) dX7_readNumber_106 (by decide) ?_
          exact x_zret C E (by decide +kernel) dX7_readNumber_107 (hE (1, σ23) (Option.some.inj h).symm)
        · have h := ifN h c21
          refine x_aload_n C (i := 0) dX7_readNumber_90 rfl rfl ?_
          refine x_iconst C (v := 2) dX7_readNumber_91 (by decide) ?_
          obtain ⟨r24, er24, h⟩ := ob h
          refine x_callVr C Z mv_X7_faulty lk_X7_58 (rv_h er24) (ct_X7_faulty er24) (by decide) rfl rfl (Nat.le_of_ble_eq_true rfl) dX7_readNumber_92 ?_
          obtain ⟨u25, eu25, h⟩ := ob h
          exact x_zret C E (zb_n eu25) dX7_readNumber_95 (hE (r24.1, r24.2) (Option.some.inj h).symm)
    · have h := ifP h c15
      refine x_aload_n C (i := 0) dX7_readNumber_68 rfl rfl ?_
      refine x_iconst C (v := 1) dX7_readNumber_69 (by decide) ?_
      obtain ⟨r26, er26, h⟩ := ob h
      refine x_callVr C Z mv_X7_faulty lk_X7_58 (rv_h er26) (ct_X7_faulty er26) (by decide) rfl rfl (Nat.le_of_ble_eq_true rfl) dX7_readNumber_70 ?_
      obtain ⟨u27, eu27, h⟩ := ob h
      exact x_zret C E (zb_n eu27) dX7_readNumber_73 (hE (r26.1, r26.2) (Option.some.inj h).symm)
theorem dX7_readLaw_0 : decode cX7_readLaw 0 = .ok (.aload_n 0, 1) := by decide +kernel
theorem dX7_readLaw_1 : decode cX7_readLaw 1 = .ok (.bipush 116, 2) := by decide +kernel
theorem dX7_readLaw_3 : decode cX7_readLaw 3 = .ok (.invokevirtual 34, 3) := by decide +kernel
theorem dX7_readLaw_6 : decode cX7_readLaw 6 = .ok (.ifCond .eq 12, 3) := by decide +kernel
theorem dX7_readLaw_9 : decode cX7_readLaw 9 = .ok (.aload_n 0, 1) := by decide +kernel
theorem dX7_readLaw_10 : decode cX7_readLaw 10 = .ok (.iconst 3, 1) := by decide +kernel
theorem dX7_readLaw_11 : decode cX7_readLaw 11 = .ok (.iconst 4, 1) := by decide +kernel
theorem dX7_readLaw_12 : decode cX7_readLaw 12 = .ok (.invokevirtual 38, 3) := by decide +kernel
theorem dX7_readLaw_15 : decode cX7_readLaw 15 = .ok (.ifCond .ne 5, 3) := by decide +kernel
theorem dX7_readLaw_18 : decode cX7_readLaw 18 = .ok (.iconst 0, 1) := by decide +kernel
theorem dX7_readLaw_19 : decode cX7_readLaw 19 = .ok (.ireturn, 1) := by decide +kernel
theorem dX7_readLaw_20 : decode cX7_readLaw 20 = .ok (.aload_n 1, 1) := by decide +kernel
theorem dX7_readLaw_21 : decode cX7_readLaw 21 = .ok (.aload_n 0, 1) := by decide +kernel
theorem dX7_readLaw_22 : decode cX7_readLaw 22 = .ok (.getfield 42, 3) := by decide +kernel
theorem dX7_readLaw_25 : decode cX7_readLaw 25 = .ok (.putfield 45, 3) := by decide +kernel
theorem dX7_readLaw_28 : decode cX7_readLaw 28 = .ok (.aload_n 0, 1) := by decide +kernel
theorem dX7_readLaw_29 : decode cX7_readLaw 29 = .ok (.bipush 44, 2) := by decide +kernel
theorem dX7_readLaw_31 : decode cX7_readLaw 31 = .ok (.invokevirtual 34, 3) := by decide +kernel
theorem dX7_readLaw_34 : decode cX7_readLaw 34 = .ok (.ifCond .eq 13, 3) := by decide +kernel
theorem dX7_readLaw_37 : decode cX7_readLaw 37 = .ok (.aload_n 0, 1) := by decide +kernel
theorem dX7_readLaw_38 : decode cX7_readLaw 38 = .ok (.iconst 1, 1) := by decide +kernel
theorem dX7_readLaw_39 : decode cX7_readLaw 39 = .ok (.bipush 6, 2) := by decide +kernel
theorem dX7_readLaw_41 : decode cX7_readLaw 41 = .ok (.invokevirtual 38, 3) := by decide +kernel
theorem dX7_readLaw_44 : decode cX7_readLaw 44 = .ok (.ifCond .ne 5, 3) := by decide +kernel
theorem dX7_readLaw_47 : decode cX7_readLaw 47 = .ok (.iconst 0, 1) := by decide +kernel
theorem dX7_readLaw_48 : decode cX7_readLaw 48 = .ok (.ireturn, 1) := by decide +kernel
theorem dX7_readLaw_49 : decode cX7_readLaw 49 = .ok (.aload_n 1, 1) := by decide +kernel
theorem dX7_readLaw_50 : decode cX7_readLaw 50 = .ok (.aload_n 0, 1) := by decide +kernel
theorem dX7_readLaw_51 : decode cX7_readLaw 51 = .ok (.getfield 42, 3) := by decide +kernel
theorem dX7_readLaw_54 : decode cX7_readLaw 54 = .ok (.putfield 48, 3) := by decide +kernel
theorem dX7_readLaw_57 : decode cX7_readLaw 57 = .ok (.aload_n 0, 1) := by decide +kernel
theorem dX7_readLaw_58 : decode cX7_readLaw 58 = .ok (.bipush 59, 2) := by decide +kernel
theorem dX7_readLaw_60 : decode cX7_readLaw 60 = .ok (.invokevirtual 34, 3) := by decide +kernel
theorem dX7_readLaw_63 : decode cX7_readLaw 63 = .ok (.ireturn, 1) := by decide +kernel
def m_X7_readLaw (N : Nat) (σ : Hp) (t0 : Nat) (p1 : Nat) : Option (Int32 × Hp) :=
  (rv N σ t0 7).bind fun _ =>
  (m_X7_passes N σ t0 116).bind fun r1 =>
  if r1.1 = 0 then
   some (0, r1.2)
  else
   (m_X7_readNumber N r1.2 t0 3 4).bind fun r3 =>
  if r3.1 = 0 then
   some (0, r3.2)
  else
   (gI N r3.2 t0 7 4).bind fun x5 =>
  (pV N r3.2 p1 2 0 (.int x5)).bind fun σ6 =>
  (m_X7_passes N σ6 t0 44).bind fun r7 =>
  if r7.1 = 0 then
   some (0, r7.2)
  else
   (m_X7_readNumber N r7.2 t0 1 6).bind fun r9 =>
  if r9.1 = 0 then
   some (0, r9.2)
  else
   (gI N r9.2 t0 7 4).bind fun x11 =>
  (pV N r9.2 p1 2 2 (.int x11)).bind fun σ12 =>
  (m_X7_passes N σ12 t0 59).bind fun r13 =>
  (zb r13.1).bind fun u14 =>
  some (r13.1, r13.2)
set_option maxHeartbeats 4000000 in
set_option maxRecDepth 100000 in
theorem ct_X7_readLaw {l : Launch} {D : va_G} {cy : Nat → Nat} {N : Nat} {σ : Hp} {t0 : Nat} {p1 : Nat} {r : Int32 × Hp} (h : m_X7_readLaw N σ t0 p1 = some r) : Ct l D cy yX7_readLaw cX7_readLaw 2 (some .boolean) 2 [.ref t0, .ref p1] N σ (fun v s' => v = (some (.int r.1)) ∧ s' = r.2) := by
  refine Ct.intro [some (.ref t0), some (.ref p1)] (by decide) rfl (Nat.le_of_ble_eq_true rfl) ?_
  intro κ ω e1 e2 e3 e4 C Z E
  subst e1; subst e2; subst e3; subst e4
  have C : Cx κ 2 2 cX7_readLaw RX7 "readLaw" := C
  have hE : ∀ x : Int32 × Hp, r = x → ((some (Value.int x.1)) = (some (Value.int r.1)) ∧ x.2 = r.2) := fun x hx => by subst hx; exact ⟨rfl, rfl⟩
  unfold m_X7_readLaw at h
  obtain ⟨_, _, h⟩ := ob h
  refine x_aload_n C (i := 0) dX7_readLaw_0 rfl rfl ?_
  refine x_bipush C (v := 116) dX7_readLaw_1 (by decide) ?_
  obtain ⟨r1, er1, h⟩ := ob h
  refine x_callVr C Z mv_X7_passes lk_X7_34 (rv_h er1) (ct_X7_passes er1) (by decide) rfl rfl (Nat.le_of_ble_eq_true rfl) dX7_readLaw_3 ?_
  refine x_if_eq C (tgt := 18) dX7_readLaw_6 (by decide) (fun c2 => ?_) (fun c2 => ?_)
  · have h := ifP h c2
    refine x_iconst C (v := 0) dX7_readLaw_18 (by decide) ?_
    exact x_zret C E (by decide +kernel) dX7_readLaw_19 (hE (0, r1.2) (Option.some.inj h).symm)
  · have h := ifN h c2
    refine x_aload_n C (i := 0) dX7_readLaw_9 rfl rfl ?_
    refine x_iconst C (v := 3) dX7_readLaw_10 (by decide) ?_
    refine x_iconst C (v := 4) dX7_readLaw_11 (by decide) ?_
    obtain ⟨r3, er3, h⟩ := ob h
    refine x_callVr C Z mv_X7_readNumber lk_X7_38 (rv_h er3) (ct_X7_readNumber er3) (by decide) rfl rfl (Nat.le_of_ble_eq_true rfl) dX7_readLaw_12 ?_
    refine x_if_ne C (tgt := 20) dX7_readLaw_15 (by decide) (fun c4 => ?_) (fun c4 => ?_)
    · have h := ifN h c4
      refine x_aload_n C (i := 1) dX7_readLaw_20 rfl rfl ?_
      refine x_aload_n C (i := 0) dX7_readLaw_21 rfl rfl ?_
      obtain ⟨x5, ex5, h⟩ := ob h
      refine x_getI C fl_X7_42 dX7_readLaw_22 ex5 ?_
      obtain ⟨σ6, eσ6, h⟩ := ob h
      refine x_put C pl_X7_45 dX7_readLaw_25 (fun _ => ⟨rfl, rfl⟩) eσ6 ?_
      refine x_aload_n C (i := 0) dX7_readLaw_28 rfl rfl ?_
      refine x_bipush C (v := 44) dX7_readLaw_29 (by decide) ?_
      obtain ⟨r7, er7, h⟩ := ob h
      refine x_callVr C Z mv_X7_passes lk_X7_34 (rv_h er7) (ct_X7_passes er7) (by decide) rfl rfl (Nat.le_of_ble_eq_true rfl) dX7_readLaw_31 ?_
      refine x_if_eq C (tgt := 47) dX7_readLaw_34 (by decide) (fun c8 => ?_) (fun c8 => ?_)
      · have h := ifP h c8
        refine x_iconst C (v := 0) dX7_readLaw_47 (by decide) ?_
        exact x_zret C E (by decide +kernel) dX7_readLaw_48 (hE (0, r7.2) (Option.some.inj h).symm)
      · have h := ifN h c8
        refine x_aload_n C (i := 0) dX7_readLaw_37 rfl rfl ?_
        refine x_iconst C (v := 1) dX7_readLaw_38 (by decide) ?_
        refine x_bipush C (v := 6) dX7_readLaw_39 (by decide) ?_
        obtain ⟨r9, er9, h⟩ := ob h
        refine x_callVr C Z mv_X7_readNumber lk_X7_38 (rv_h er9) (ct_X7_readNumber er9) (by decide) rfl rfl (Nat.le_of_ble_eq_true rfl) dX7_readLaw_41 ?_
        refine x_if_ne C (tgt := 49) dX7_readLaw_44 (by decide) (fun c10 => ?_) (fun c10 => ?_)
        · have h := ifN h c10
          refine x_aload_n C (i := 1) dX7_readLaw_49 rfl rfl ?_
          refine x_aload_n C (i := 0) dX7_readLaw_50 rfl rfl ?_
          obtain ⟨x11, ex11, h⟩ := ob h
          refine x_getI C fl_X7_42 dX7_readLaw_51 ex11 ?_
          obtain ⟨σ12, eσ12, h⟩ := ob h
          refine x_put C pl_X7_48 dX7_readLaw_54 (fun _ => ⟨rfl, rfl⟩) eσ12 ?_
          refine x_aload_n C (i := 0) dX7_readLaw_57 rfl rfl ?_
          refine x_bipush C (v := 59) dX7_readLaw_58 (by decide) ?_
          obtain ⟨r13, er13, h⟩ := ob h
          refine x_callVr C Z mv_X7_passes lk_X7_34 (rv_h er13) (ct_X7_passes er13) (by decide) rfl rfl (Nat.le_of_ble_eq_true rfl) dX7_readLaw_60 ?_
          obtain ⟨u14, eu14, h⟩ := ob h
          exact x_zret C E (zb_n eu14) dX7_readLaw_63 (hE (r13.1, r13.2) (Option.some.inj h).symm)
        · have h := ifP h c10
          refine x_iconst C (v := 0) dX7_readLaw_47 (by decide) ?_
          exact x_zret C E (by decide +kernel) dX7_readLaw_48 (hE (0, r9.2) (Option.some.inj h).symm)
    · have h := ifP h c4
      refine x_iconst C (v := 0) dX7_readLaw_18 (by decide) ?_
      exact x_zret C E (by decide +kernel) dX7_readLaw_19 (hE (0, r3.2) (Option.some.inj h).symm)
theorem dX7_sortOf_0 : decode cX7_sortOf 0 = .ok (.iload_n 0, 1) := by decide +kernel
theorem dX7_sortOf_1 : decode cX7_sortOf 1 = .ok (.tableswitch 81 102 115 #[79, 77, 75, 81, 81, 81, 81, 81, 81, 81, 71, 81, 81, 73], 71) := by decide +kernel
theorem dX7_sortOf_72 : decode cX7_sortOf 72 = .ok (.iconst 1, 1) := by decide +kernel
theorem dX7_sortOf_73 : decode cX7_sortOf 73 = .ok (.ireturn, 1) := by decide +kernel
theorem dX7_sortOf_74 : decode cX7_sortOf 74 = .ok (.iconst 2, 1) := by decide +kernel
theorem dX7_sortOf_75 : decode cX7_sortOf 75 = .ok (.ireturn, 1) := by decide +kernel
theorem dX7_sortOf_76 : decode cX7_sortOf 76 = .ok (.iconst 3, 1) := by decide +kernel
theorem dX7_sortOf_77 : decode cX7_sortOf 77 = .ok (.ireturn, 1) := by decide +kernel
theorem dX7_sortOf_78 : decode cX7_sortOf 78 = .ok (.iconst 4, 1) := by decide +kernel
theorem dX7_sortOf_79 : decode cX7_sortOf 79 = .ok (.ireturn, 1) := by decide +kernel
theorem dX7_sortOf_80 : decode cX7_sortOf 80 = .ok (.iconst 5, 1) := by decide +kernel
theorem dX7_sortOf_81 : decode cX7_sortOf 81 = .ok (.ireturn, 1) := by decide +kernel
theorem dX7_sortOf_82 : decode cX7_sortOf 82 = .ok (.iconst 0, 1) := by decide +kernel
theorem dX7_sortOf_83 : decode cX7_sortOf 83 = .ok (.ireturn, 1) := by decide +kernel
def m_X7_sortOf (p0 : Int32) : Option (Int32) :=
  if p0 = 102 then
   some 5
  else if p0 = 103 then
   some 4
  else if p0 = 104 then
   some 3
  else if p0 = 105 then
   some 0
  else if p0 = 106 then
   some 0
  else if p0 = 107 then
   some 0
  else if p0 = 108 then
   some 0
  else if p0 = 109 then
   some 0
  else if p0 = 110 then
   some 0
  else if p0 = 111 then
   some 0
  else if p0 = 112 then
   some 1
  else if p0 = 113 then
   some 0
  else if p0 = 114 then
   some 0
  else if p0 = 115 then
   some 2
  else 
   some 0
set_option maxHeartbeats 4000000 in
set_option maxRecDepth 100000 in
theorem ct_X7_sortOf {l : Launch} {D : va_G} {cy : Nat → Nat} {N : Nat} {σ : Hp} {p0 : Int32} {r : Int32} (h : m_X7_sortOf p0 = some r) : Ct l D cy yX7_sortOf cX7_sortOf 1 (some .int) 0 [.int p0] N σ (fun v s' => v = (some (.int r)) ∧ s' = σ) := by
  refine Ct.intro [some (.int p0)] (by decide) rfl (Nat.le_of_ble_eq_true rfl) ?_
  intro κ ω e1 e2 e3 e4 C Z E
  subst e1; subst e2; subst e3; subst e4
  have C : Cx κ 1 0 cX7_sortOf RX7 "sortOf" := C
  have hE : ∀ x : Int32, r = x → ((some (Value.int x)) = (some (Value.int r)) ∧ σ = σ) := fun x hx => by subst hx; exact ⟨rfl, rfl⟩
  unfold m_X7_sortOf at h
  refine x_iload_n C (i := 0) dX7_sortOf_0 rfl rfl ?_
  by_cases c1 : p0 = 102
  · have h := ifP h c1
    refine x_tableIn C (off := 79) (tgt := 80) dX7_sortOf_1 (by rw [c1]; decide) (by rw [c1]; decide) (by rw [c1]; rfl) (by decide) ?_
    refine x_iconst C (v := 5) dX7_sortOf_80 (by decide) ?_
    exact x_iret C E dX7_sortOf_81 (hE 5 (Option.some.inj h).symm)
  · have h := ifN h c1
    by_cases c2 : p0 = 103
    · have h := ifP h c2
      refine x_tableIn C (off := 77) (tgt := 78) dX7_sortOf_1 (by rw [c2]; decide) (by rw [c2]; decide) (by rw [c2]; rfl) (by decide) ?_
      refine x_iconst C (v := 4) dX7_sortOf_78 (by decide) ?_
      exact x_iret C E dX7_sortOf_79 (hE 4 (Option.some.inj h).symm)
    · have h := ifN h c2
      by_cases c3 : p0 = 104
      · have h := ifP h c3
        refine x_tableIn C (off := 75) (tgt := 76) dX7_sortOf_1 (by rw [c3]; decide) (by rw [c3]; decide) (by rw [c3]; rfl) (by decide) ?_
        refine x_iconst C (v := 3) dX7_sortOf_76 (by decide) ?_
        exact x_iret C E dX7_sortOf_77 (hE 3 (Option.some.inj h).symm)
      · have h := ifN h c3
        by_cases c4 : p0 = 105
        · have h := ifP h c4
          refine x_tableIn C (off := 81) (tgt := 82) dX7_sortOf_1 (by rw [c4]; decide) (by rw [c4]; decide) (by rw [c4]; rfl) (by decide) ?_
          refine x_iconst C (v := 0) dX7_sortOf_82 (by decide) ?_
          exact x_iret C E dX7_sortOf_83 (hE 0 (Option.some.inj h).symm)
        · have h := ifN h c4
          by_cases c5 : p0 = 106
          · have h := ifP h c5
            refine x_tableIn C (off := 81) (tgt := 82) dX7_sortOf_1 (by rw [c5]; decide) (by rw [c5]; decide) (by rw [c5]; rfl) (by decide) ?_
            refine x_iconst C (v := 0) dX7_sortOf_82 (by decide) ?_
            exact x_iret C E dX7_sortOf_83 (hE 0 (Option.some.inj h).symm)
          · have h := ifN h c5
            by_cases c6 : p0 = 107
            · have h := ifP h c6
              refine x_tableIn C (off := 81) (tgt := 82) dX7_sortOf_1 (by rw [c6]; decide) (by rw [c6]; decide) (by rw [c6]; rfl) (by decide) ?_
              refine x_iconst C (v := 0) dX7_sortOf_82 (by decide) ?_
              exact x_iret C E dX7_sortOf_83 (hE 0 (Option.some.inj h).symm)
            · have h := ifN h c6
              by_cases c7 : p0 = 108
              · have h := ifP h c7
                refine x_tableIn C (off := 81) (tgt := 82) dX7_sortOf_1 (by rw [c7]; decide) (by rw [c7]; decide) (by rw [c7]; rfl) (by decide) ?_
                refine x_iconst C (v := 0) dX7_sortOf_82 (by decide) ?_
                exact x_iret C E dX7_sortOf_83 (hE 0 (Option.some.inj h).symm)
              · have h := ifN h c7
                by_cases c8 : p0 = 109
                · have h := ifP h c8
                  refine x_tableIn C (off := 81) (tgt := 82) dX7_sortOf_1 (by rw [c8]; decide) (by rw [c8]; decide) (by rw [c8]; rfl) (by decide) ?_
                  refine x_iconst C (v := 0) dX7_sortOf_82 (by decide) ?_
                  exact x_iret C E dX7_sortOf_83 (hE 0 (Option.some.inj h).symm)
                · have h := ifN h c8
                  by_cases c9 : p0 = 110
                  · have h := ifP h c9
                    refine x_tableIn C (off := 81) (tgt := 82) dX7_sortOf_1 (by rw [c9]; decide) (by rw [c9]; decide) (by rw [c9]; rfl) (by decide) ?_
                    refine x_iconst C (v := 0) dX7_sortOf_82 (by decide) ?_
                    exact x_iret C E dX7_sortOf_83 (hE 0 (Option.some.inj h).symm)
                  · have h := ifN h c9
                    by_cases c10 : p0 = 111
                    · have h := ifP h c10
                      refine x_tableIn C (off := 81) (tgt := 82) dX7_sortOf_1 (by rw [c10]; decide) (by rw [c10]; decide) (by rw [c10]; rfl) (by decide) ?_
                      refine x_iconst C (v := 0) dX7_sortOf_82 (by decide) ?_
                      exact x_iret C E dX7_sortOf_83 (hE 0 (Option.some.inj h).symm)
                    · have h := ifN h c10
                      by_cases c11 : p0 = 112
                      · have h := ifP h c11
                        refine x_tableIn C (off := 71) (tgt := 72) dX7_sortOf_1 (by rw [c11]; decide) (by rw [c11]; decide) (by rw [c11]; rfl) (by decide) ?_
                        refine x_iconst C (v := 1) dX7_sortOf_72 (by decide) ?_
                        exact x_iret C E dX7_sortOf_73 (hE 1 (Option.some.inj h).symm)
                      · have h := ifN h c11
                        by_cases c12 : p0 = 113
                        · have h := ifP h c12
                          refine x_tableIn C (off := 81) (tgt := 82) dX7_sortOf_1 (by rw [c12]; decide) (by rw [c12]; decide) (by rw [c12]; rfl) (by decide) ?_
                          refine x_iconst C (v := 0) dX7_sortOf_82 (by decide) ?_
                          exact x_iret C E dX7_sortOf_83 (hE 0 (Option.some.inj h).symm)
                        · have h := ifN h c12
                          by_cases c13 : p0 = 114
                          · have h := ifP h c13
                            refine x_tableIn C (off := 81) (tgt := 82) dX7_sortOf_1 (by rw [c13]; decide) (by rw [c13]; decide) (by rw [c13]; rfl) (by decide) ?_
                            refine x_iconst C (v := 0) dX7_sortOf_82 (by decide) ?_
                            exact x_iret C E dX7_sortOf_83 (hE 0 (Option.some.inj h).symm)
                          · have h := ifN h c13
                            by_cases c14 : p0 = 115
                            · have h := ifP h c14
                              refine x_tableIn C (off := 73) (tgt := 74) dX7_sortOf_1 (by rw [c14]; decide) (by rw [c14]; decide) (by rw [c14]; rfl) (by decide) ?_
                              refine x_iconst C (v := 2) dX7_sortOf_74 (by decide) ?_
                              exact x_iret C E dX7_sortOf_75 (hE 2 (Option.some.inj h).symm)
                            · have h := ifN h c14
                              refine x_tableOut C (tgt := 82) dX7_sortOf_1 (by have q102 := lv_neT (a := 102) c1 (by decide); have q103 := lv_neT (a := 103) c2 (by decide); have q104 := lv_neT (a := 104) c3 (by decide); have q105 := lv_neT (a := 105) c4 (by decide); have q106 := lv_neT (a := 106) c5 (by decide); have q107 := lv_neT (a := 107) c6 (by decide); have q108 := lv_neT (a := 108) c7 (by decide); have q109 := lv_neT (a := 109) c8 (by decide); have q110 := lv_neT (a := 110) c9 (by decide); have q111 := lv_neT (a := 111) c10 (by decide); have q112 := lv_neT (a := 112) c11 (by decide); have q113 := lv_neT (a := 113) c12 (by decide); have q114 := lv_neT (a := 114) c13 (by decide); have q115 := lv_neT (a := 115) c14 (by decide); omega) (by decide) ?_
                              refine x_iconst C (v := 0) dX7_sortOf_82 (by decide) ?_
                              exact x_iret C E dX7_sortOf_83 (hE 0 (Option.some.inj h).symm)
theorem dX7_readDisc_0 : decode cX7_readDisc 0 = .ok (.aload_n 0, 1) := by decide +kernel
theorem dX7_readDisc_1 : decode cX7_readDisc 1 = .ok (.aload_n 0, 1) := by decide +kernel
theorem dX7_readDisc_2 : decode cX7_readDisc 2 = .ok (.getfield 19, 3) := by decide +kernel
theorem dX7_readDisc_5 : decode cX7_readDisc 5 = .ok (.invokevirtual 51, 3) := by decide +kernel
theorem dX7_readDisc_8 : decode cX7_readDisc 8 = .ok (.invokestatic 55, 3) := by decide +kernel
theorem dX7_readDisc_11 : decode cX7_readDisc 11 = .ok (.istore_n 2, 1) := by decide +kernel
theorem dX7_readDisc_12 : decode cX7_readDisc 12 = .ok (.iload_n 2, 1) := by decide +kernel
theorem dX7_readDisc_13 : decode cX7_readDisc 13 = .ok (.ifCond .ne 9, 3) := by decide +kernel
theorem dX7_readDisc_16 : decode cX7_readDisc 16 = .ok (.aload_n 0, 1) := by decide +kernel
theorem dX7_readDisc_17 : decode cX7_readDisc 17 = .ok (.iconst 1, 1) := by decide +kernel
theorem dX7_readDisc_18 : decode cX7_readDisc 18 = .ok (.invokevirtual 58, 3) := by decide +kernel
theorem dX7_readDisc_21 : decode cX7_readDisc 21 = .ok (.ireturn, 1) := by decide +kernel
theorem dX7_readDisc_22 : decode cX7_readDisc 22 = .ok (.aload_n 1, 1) := by decide +kernel
theorem dX7_readDisc_23 : decode cX7_readDisc 23 = .ok (.getfield 61, 3) := by decide +kernel
theorem dX7_readDisc_26 : decode cX7_readDisc 26 = .ok (.bipush 6, 2) := by decide +kernel
theorem dX7_readDisc_28 : decode cX7_readDisc 28 = .ok (.if_icmp .lt 9, 3) := by decide +kernel
theorem dX7_readDisc_31 : decode cX7_readDisc 31 = .ok (.aload_n 0, 1) := by decide +kernel
theorem dX7_readDisc_32 : decode cX7_readDisc 32 = .ok (.iconst 3, 1) := by decide +kernel
theorem dX7_readDisc_33 : decode cX7_readDisc 33 = .ok (.invokevirtual 58, 3) := by decide +kernel
theorem dX7_readDisc_36 : decode cX7_readDisc 36 = .ok (.ireturn, 1) := by decide +kernel
theorem dX7_readDisc_37 : decode cX7_readDisc 37 = .ok (.aload_n 0, 1) := by decide +kernel
theorem dX7_readDisc_38 : decode cX7_readDisc 38 = .ok (.dup, 1) := by decide +kernel
theorem dX7_readDisc_39 : decode cX7_readDisc 39 = .ok (.getfield 19, 3) := by decide +kernel
theorem dX7_readDisc_42 : decode cX7_readDisc 42 = .ok (.iconst 1, 1) := by decide +kernel
theorem dX7_readDisc_43 : decode cX7_readDisc 43 = .ok (.iadd, 1) := by decide +kernel
theorem dX7_readDisc_44 : decode cX7_readDisc 44 = .ok (.putfield 19, 3) := by decide +kernel
theorem dX7_readDisc_47 : decode cX7_readDisc 47 = .ok (.aload_n 0, 1) := by decide +kernel
theorem dX7_readDisc_48 : decode cX7_readDisc 48 = .ok (.iconst 0, 1) := by decide +kernel
theorem dX7_readDisc_49 : decode cX7_readDisc 49 = .ok (.aload_n 1, 1) := by decide +kernel
theorem dX7_readDisc_50 : decode cX7_readDisc 50 = .ok (.getfield 45, 3) := by decide +kernel
theorem dX7_readDisc_53 : decode cX7_readDisc 53 = .ok (.iconst 1, 1) := by decide +kernel
theorem dX7_readDisc_54 : decode cX7_readDisc 54 = .ok (.isub, 1) := by decide +kernel
theorem dX7_readDisc_55 : decode cX7_readDisc 55 = .ok (.invokevirtual 38, 3) := by decide +kernel
theorem dX7_readDisc_58 : decode cX7_readDisc 58 = .ok (.ifCond .eq 12, 3) := by decide +kernel
theorem dX7_readDisc_61 : decode cX7_readDisc 61 = .ok (.aload_n 0, 1) := by decide +kernel
theorem dX7_readDisc_62 : decode cX7_readDisc 62 = .ok (.bipush 59, 2) := by decide +kernel
theorem dX7_readDisc_64 : decode cX7_readDisc 64 = .ok (.invokevirtual 34, 3) := by decide +kernel
theorem dX7_readDisc_67 : decode cX7_readDisc 67 = .ok (.ifCond .ne 5, 3) := by decide +kernel
theorem dX7_readDisc_70 : decode cX7_readDisc 70 = .ok (.iconst 0, 1) := by decide +kernel
theorem dX7_readDisc_71 : decode cX7_readDisc 71 = .ok (.ireturn, 1) := by decide +kernel
theorem dX7_readDisc_72 : decode cX7_readDisc 72 = .ok (.aload_n 1, 1) := by decide +kernel
theorem dX7_readDisc_73 : decode cX7_readDisc 73 = .ok (.aload_n 1, 1) := by decide +kernel
theorem dX7_readDisc_74 : decode cX7_readDisc 74 = .ok (.getfield 61, 3) := by decide +kernel
theorem dX7_readDisc_77 : decode cX7_readDisc 77 = .ok (.iload_n 2, 1) := by decide +kernel
theorem dX7_readDisc_78 : decode cX7_readDisc 78 = .ok (.invokevirtual 64, 3) := by decide +kernel
theorem dX7_readDisc_81 : decode cX7_readDisc 81 = .ok (.aload_n 1, 1) := by decide +kernel
theorem dX7_readDisc_82 : decode cX7_readDisc 82 = .ok (.aload_n 1, 1) := by decide +kernel
theorem dX7_readDisc_83 : decode cX7_readDisc 83 = .ok (.getfield 61, 3) := by decide +kernel
theorem dX7_readDisc_86 : decode cX7_readDisc 86 = .ok (.aload_n 0, 1) := by decide +kernel
theorem dX7_readDisc_87 : decode cX7_readDisc 87 = .ok (.getfield 42, 3) := by decide +kernel
theorem dX7_readDisc_90 : decode cX7_readDisc 90 = .ok (.invokevirtual 68, 3) := by decide +kernel
theorem dX7_readDisc_93 : decode cX7_readDisc 93 = .ok (.aload_n 1, 1) := by decide +kernel
theorem dX7_readDisc_94 : decode cX7_readDisc 94 = .ok (.dup, 1) := by decide +kernel
theorem dX7_readDisc_95 : decode cX7_readDisc 95 = .ok (.getfield 61, 3) := by decide +kernel
theorem dX7_readDisc_98 : decode cX7_readDisc 98 = .ok (.iconst 1, 1) := by decide +kernel
theorem dX7_readDisc_99 : decode cX7_readDisc 99 = .ok (.iadd, 1) := by decide +kernel
theorem dX7_readDisc_100 : decode cX7_readDisc 100 = .ok (.putfield 61, 3) := by decide +kernel
theorem dX7_readDisc_103 : decode cX7_readDisc 103 = .ok (.iconst 1, 1) := by decide +kernel
theorem dX7_readDisc_104 : decode cX7_readDisc 104 = .ok (.ireturn, 1) := by decide +kernel
def m_X7_readDisc (N : Nat) (σ : Hp) (t0 : Nat) (p1 : Nat) : Option (Int32 × Hp) :=
  (rv N σ t0 7).bind fun _ =>
  (gI N σ t0 7 2).bind fun x1 =>
  (m_X7_byteAt N σ t0 x1).bind fun r2 =>
  (m_X7_sortOf r2).bind fun r3 =>
  if r3 = 0 then
   (m_X7_faulty N σ t0 1).bind fun r23 =>
  (zb r23.1).bind fun u24 =>
  some (r23.1, r23.2)
  else
   (gI N σ p1 2 1).bind fun x5 =>
  if x5 < 6 then
   (gI N σ t0 7 2).bind fun x7 =>
  (pV N σ t0 7 2 (.int (x7 + 1))).bind fun σ8 =>
  (gI N σ8 p1 2 0).bind fun x9 =>
  (m_X7_readNumber N σ8 t0 0 (x9 - 1)).bind fun r10 =>
  if r10.1 = 0 then
   some (0, r10.2)
  else
   (m_X7_passes N r10.2 t0 59).bind fun r12 =>
  if r12.1 = 0 then
   some (0, r12.2)
  else
   (gI N r12.2 p1 2 1).bind fun x14 =>
  (m_X2_sortAs N r12.2 p1 x14 r3).bind fun r15 =>
  (gI N r15 p1 2 1).bind fun x16 =>
  (gI N r15 t0 7 4).bind fun x17 =>
  (m_X2_layBy N r15 p1 x16 x17).bind fun r18 =>
  (gI N r18 p1 2 1).bind fun x19 =>
  (pV N r18 p1 2 1 (.int (x19 + 1))).bind fun σ20 =>
  some (1, σ20)
  else
   (m_X7_faulty N σ t0 3).bind fun r21 =>
  (zb r21.1).bind fun u22 =>
  some (r21.1, r21.2)
set_option maxHeartbeats 4000000 in
set_option maxRecDepth 100000 in
theorem ct_X7_readDisc {l : Launch} {D : va_G} {cy : Nat → Nat} {N : Nat} {σ : Hp} {t0 : Nat} {p1 : Nat} {r : Int32 × Hp} (h : m_X7_readDisc N σ t0 p1 = some r) : Ct l D cy yX7_readDisc cX7_readDisc 3 (some .boolean) 2 [.ref t0, .ref p1] N σ (fun v s' => v = (some (.int r.1)) ∧ s' = r.2) := by
  refine Ct.intro [some (.ref t0), some (.ref p1), none] (by decide) rfl (Nat.le_of_ble_eq_true rfl) ?_
  intro κ ω e1 e2 e3 e4 C Z E
  subst e1; subst e2; subst e3; subst e4
  have C : Cx κ 3 2 cX7_readDisc RX7 "readDisc" := C
  have hE : ∀ x : Int32 × Hp, r = x → ((some (Value.int x.1)) = (some (Value.int r.1)) ∧ x.2 = r.2) := fun x hx => by subst hx; exact ⟨rfl, rfl⟩
  unfold m_X7_readDisc at h
  obtain ⟨_, _, h⟩ := ob h
  refine x_aload_n C (i := 0) dX7_readDisc_0 rfl rfl ?_
  refine x_aload_n C (i := 0) dX7_readDisc_1 rfl rfl ?_
  obtain ⟨x1, ex1, h⟩ := ob h
  refine x_getI C fl_X7_19 dX7_readDisc_2 ex1 ?_
  obtain ⟨r2, er2, h⟩ := ob h
  refine x_callVr C Z mv_X7_byteAt lk_X7_51 (rv_h er2) (ct_X7_byteAt er2) (by decide) rfl rfl (Nat.le_of_ble_eq_true rfl) dX7_readDisc_5 ?_
  obtain ⟨r3, er3, h⟩ := ob h
  refine x_callSr C Z ms_X7_sortOf lk_X7_55 (ct_X7_sortOf (N := ω.1) (σ := σ) er3) (by decide) rfl rfl (Nat.le_of_ble_eq_true rfl) dX7_readDisc_8 ?_
  refine x_istore_n C (i := 2) (lo' := [some (.ref t0), some (.ref p1), some (.int r3)]) dX7_readDisc_11 rfl (by decide) rfl rfl ?_
  refine x_iload_n C (i := 2) dX7_readDisc_12 rfl rfl ?_
  refine x_if_ne C (tgt := 22) dX7_readDisc_13 (by decide) (fun c4 => ?_) (fun c4 => ?_)
  · have h := ifN h c4
    refine x_aload_n C (i := 1) dX7_readDisc_22 rfl rfl ?_
    obtain ⟨x5, ex5, h⟩ := ob h
    refine x_getI C fl_X7_61 dX7_readDisc_23 ex5 ?_
    refine x_bipush C (v := 6) dX7_readDisc_26 (by decide) ?_
    refine x_icmp_lt C (tgt := 37) dX7_readDisc_28 (by decide) (fun c6 => ?_) (fun c6 => ?_)
    · have h := ifP h c6
      refine x_aload_n C (i := 0) dX7_readDisc_37 rfl rfl ?_
      refine x_dup C dX7_readDisc_38 rfl ?_
      obtain ⟨x7, ex7, h⟩ := ob h
      refine x_getI C fl_X7_19 dX7_readDisc_39 ex7 ?_
      refine x_iconst C (v := 1) dX7_readDisc_42 (by decide) ?_
      refine x_iadd C dX7_readDisc_43 ?_
      obtain ⟨σ8, eσ8, h⟩ := ob h
      refine x_put C pl_X7_19 dX7_readDisc_44 (fun _ => ⟨rfl, rfl⟩) eσ8 ?_
      refine x_aload_n C (i := 0) dX7_readDisc_47 rfl rfl ?_
      refine x_iconst C (v := 0) dX7_readDisc_48 (by decide) ?_
      refine x_aload_n C (i := 1) dX7_readDisc_49 rfl rfl ?_
      obtain ⟨x9, ex9, h⟩ := ob h
      refine x_getI C fl_X7_45 dX7_readDisc_50 ex9 ?_
      refine x_iconst C (v := 1) dX7_readDisc_53 (by decide) ?_
      refine x_isub C dX7_readDisc_54 ?_
      obtain ⟨r10, er10, h⟩ := ob h
      refine x_callVr C Z mv_X7_readNumber lk_X7_38 (rv_h er10) (ct_X7_readNumber er10) (by decide) rfl rfl (Nat.le_of_ble_eq_true rfl) dX7_readDisc_55 ?_
      refine x_if_eq C (tgt := 70) dX7_readDisc_58 (by decide) (fun c11 => ?_) (fun c11 => ?_)
      · have h := ifP h c11
        refine x_iconst C (v := 0) dX7_readDisc_70 (by decide) ?_
        exact x_zret C E (by decide +kernel) dX7_readDisc_71 (hE (0, r10.2) (Option.some.inj h).symm)
      · have h := ifN h c11
        refine x_aload_n C (i := 0) dX7_readDisc_61 rfl rfl ?_
        refine x_bipush C (v := 59) dX7_readDisc_62 (by decide) ?_
        obtain ⟨r12, er12, h⟩ := ob h
        refine x_callVr C Z mv_X7_passes lk_X7_34 (rv_h er12) (ct_X7_passes er12) (by decide) rfl rfl (Nat.le_of_ble_eq_true rfl) dX7_readDisc_64 ?_
        refine x_if_ne C (tgt := 72) dX7_readDisc_67 (by decide) (fun c13 => ?_) (fun c13 => ?_)
        · have h := ifN h c13
          refine x_aload_n C (i := 1) dX7_readDisc_72 rfl rfl ?_
          refine x_aload_n C (i := 1) dX7_readDisc_73 rfl rfl ?_
          obtain ⟨x14, ex14, h⟩ := ob h
          refine x_getI C fl_X7_61 dX7_readDisc_74 ex14 ?_
          refine x_iload_n C (i := 2) dX7_readDisc_77 rfl rfl ?_
          obtain ⟨r15, er15, h⟩ := ob h
          refine x_callVn C Z mv_X2_sortAs lk_X7_64 (rv_h er15) (ct_X2_sortAs er15) (by decide) rfl rfl (Nat.le_of_ble_eq_true rfl) dX7_readDisc_78 ?_
          refine x_aload_n C (i := 1) dX7_readDisc_81 rfl rfl ?_
          refine x_aload_n C (i := 1) dX7_readDisc_82 rfl rfl ?_
          obtain ⟨x16, ex16, h⟩ := ob h
          refine x_getI C fl_X7_61 dX7_readDisc_83 ex16 ?_
          refine x_aload_n C (i := 0) dX7_readDisc_86 rfl rfl ?_
          obtain ⟨x17, ex17, h⟩ := ob h
          refine x_getI C fl_X7_42 dX7_readDisc_87 ex17 ?_
          obtain ⟨r18, er18, h⟩ := ob h
          refine x_callVn C Z mv_X2_layBy lk_X7_68 (rv_h er18) (ct_X2_layBy er18) (by decide) rfl rfl (Nat.le_of_ble_eq_true rfl) dX7_readDisc_90 ?_
          refine x_aload_n C (i := 1) dX7_readDisc_93 rfl rfl ?_
          refine x_dup C dX7_readDisc_94 rfl ?_
          obtain ⟨x19, ex19, h⟩ := ob h
          refine x_getI C fl_X7_61 dX7_readDisc_95 ex19 ?_
          refine x_iconst C (v := 1) dX7_readDisc_98 (by decide) ?_
          refine x_iadd C dX7_readDisc_99 ?_
          obtain ⟨σ20, eσ20, h⟩ := ob h
          refine x_put C pl_X7_61 dX7_readDisc_100 (fun _ => ⟨rfl, rfl⟩) eσ20 ?_
          refine x_iconst C (v := 1) dX7_readDisc_103 (by decide) ?_
          exact x_zret C E (by decide +kernel) dX7_readDisc_104 (hE (1, σ20) (Option.some.inj h).symm)
        · have h := ifP h c13
          refine x_iconst C (v := 0) dX7_readDisc_70 (by decide) ?_
          exact x_zret C E (by decide +kernel) dX7_readDisc_71 (hE (0, r12.2) (Option.some.inj h).symm)
    · have h := ifN h c6
      refine x_aload_n C (i := 0) dX7_readDisc_31 rfl rfl ?_
      refine x_iconst C (v := 3) dX7_readDisc_32 (by decide) ?_
      obtain ⟨r21, er21, h⟩ := ob h
      refine x_callVr C Z mv_X7_faulty lk_X7_58 (rv_h er21) (ct_X7_faulty er21) (by decide) rfl rfl (Nat.le_of_ble_eq_true rfl) dX7_readDisc_33 ?_
      obtain ⟨u22, eu22, h⟩ := ob h
      exact x_zret C E (zb_n eu22) dX7_readDisc_36 (hE (r21.1, r21.2) (Option.some.inj h).symm)
  · have h := ifP h c4
    refine x_aload_n C (i := 0) dX7_readDisc_16 rfl rfl ?_
    refine x_iconst C (v := 1) dX7_readDisc_17 (by decide) ?_
    obtain ⟨r23, er23, h⟩ := ob h
    refine x_callVr C Z mv_X7_faulty lk_X7_58 (rv_h er23) (ct_X7_faulty er23) (by decide) rfl rfl (Nat.le_of_ble_eq_true rfl) dX7_readDisc_18 ?_
    obtain ⟨u24, eu24, h⟩ := ob h
    exact x_zret C E (zb_n eu24) dX7_readDisc_21 (hE (r23.1, r23.2) (Option.some.inj h).symm)
theorem dX7_readInto_0 : decode cX7_readInto 0 = .ok (.aload_n 0, 1) := by decide +kernel
theorem dX7_readInto_1 : decode cX7_readInto 1 = .ok (.iconst 0, 1) := by decide +kernel
theorem dX7_readInto_2 : decode cX7_readInto 2 = .ok (.putfield 19, 3) := by decide +kernel
theorem dX7_readInto_5 : decode cX7_readInto 5 = .ok (.aload_n 1, 1) := by decide +kernel
theorem dX7_readInto_6 : decode cX7_readInto 6 = .ok (.invokevirtual 22, 3) := by decide +kernel
theorem dX7_readInto_9 : decode cX7_readInto 9 = .ok (.aload_n 0, 1) := by decide +kernel
theorem dX7_readInto_10 : decode cX7_readInto 10 = .ok (.aload_n 1, 1) := by decide +kernel
theorem dX7_readInto_11 : decode cX7_readInto 11 = .ok (.invokevirtual 27, 3) := by decide +kernel
theorem dX7_readInto_14 : decode cX7_readInto 14 = .ok (.ifCond .ne 5, 3) := by decide +kernel
theorem dX7_readInto_17 : decode cX7_readInto 17 = .ok (.iconst 0, 1) := by decide +kernel
theorem dX7_readInto_18 : decode cX7_readInto 18 = .ok (.ireturn, 1) := by decide +kernel
theorem dX7_readInto_19 : decode cX7_readInto 19 = .ok (.iconst 0, 1) := by decide +kernel
theorem dX7_readInto_20 : decode cX7_readInto 20 = .ok (.istore_n 2, 1) := by decide +kernel
theorem dX7_readInto_21 : decode cX7_readInto 21 = .ok (.iload_n 2, 1) := by decide +kernel
theorem dX7_readInto_22 : decode cX7_readInto 22 = .ok (.bipush 6, 2) := by decide +kernel
theorem dX7_readInto_24 : decode cX7_readInto 24 = .ok (.if_icmp .gt 36, 3) := by decide +kernel
theorem dX7_readInto_27 : decode cX7_readInto 27 = .ok (.iload_n 2, 1) := by decide +kernel
theorem dX7_readInto_28 : decode cX7_readInto 28 = .ok (.ifCond .le 16, 3) := by decide +kernel
theorem dX7_readInto_31 : decode cX7_readInto 31 = .ok (.aload_n 0, 1) := by decide +kernel
theorem dX7_readInto_32 : decode cX7_readInto 32 = .ok (.getfield 19, 3) := by decide +kernel
theorem dX7_readInto_35 : decode cX7_readInto 35 = .ok (.aload_n 0, 1) := by decide +kernel
theorem dX7_readInto_36 : decode cX7_readInto 36 = .ok (.getfield 15, 3) := by decide +kernel
theorem dX7_readInto_39 : decode cX7_readInto 39 = .ok (.if_icmp .lt 5, 3) := by decide +kernel
theorem dX7_readInto_42 : decode cX7_readInto 42 = .ok (.iconst 1, 1) := by decide +kernel
theorem dX7_readInto_43 : decode cX7_readInto 43 = .ok (.ireturn, 1) := by decide +kernel
theorem dX7_readInto_44 : decode cX7_readInto 44 = .ok (.aload_n 0, 1) := by decide +kernel
theorem dX7_readInto_45 : decode cX7_readInto 45 = .ok (.aload_n 1, 1) := by decide +kernel
theorem dX7_readInto_46 : decode cX7_readInto 46 = .ok (.invokevirtual 31, 3) := by decide +kernel
theorem dX7_readInto_49 : decode cX7_readInto 49 = .ok (.ifCond .ne 5, 3) := by decide +kernel
theorem dX7_readInto_52 : decode cX7_readInto 52 = .ok (.iconst 0, 1) := by decide +kernel
theorem dX7_readInto_53 : decode cX7_readInto 53 = .ok (.ireturn, 1) := by decide +kernel
theorem dX7_readInto_54 : decode cX7_readInto 54 = .ok (.iinc 2 1, 3) := by decide +kernel
theorem dX7_readInto_57 : decode cX7_readInto 57 = .ok (.goto (-36), 3) := by decide +kernel
theorem dX7_readInto_60 : decode cX7_readInto 60 = .ok (.iconst 1, 1) := by decide +kernel
theorem dX7_readInto_61 : decode cX7_readInto 61 = .ok (.ireturn, 1) := by decide +kernel
def L_X7_readInto_21 (N : Nat) (v0 : Nat) (v1 : Nat) : Nat → Hp → Int32 → Option ((Hp) ⊕ (Int32 × Hp))
  | 0, _, _ => none
  | n + 1, σ, v2 =>
  if 6 < v2 then
   some (.inl σ)
  else
   if v2 ≤ 0 then
   (m_X7_readDisc N σ v0 v1).bind fun r7 =>
  if r7.1 = 0 then
   some (.inr (0, r7.2))
  else
   L_X7_readInto_21 N v0 v1 n r7.2 (v2 + 1)
  else
   (gI N σ v0 7 2).bind fun x9 =>
  (gI N σ v0 7 1).bind fun x10 =>
  if x9 < x10 then
   (m_X7_readDisc N σ v0 v1).bind fun r12 =>
  if r12.1 = 0 then
   some (.inr (0, r12.2))
  else
   L_X7_readInto_21 N v0 v1 n r12.2 (v2 + 1)
  else
   some (.inr (1, σ))
def m_X7_readInto (N : Nat) (σ : Hp) (t0 : Nat) (p1 : Nat) : Option (Int32 × Hp) :=
  (rv N σ t0 7).bind fun _ =>
  (pV N σ t0 7 2 (.int 0)).bind fun σ1 =>
  (m_X2_clear N σ1 p1).bind fun r2 =>
  (m_X7_readLaw N r2 t0 p1).bind fun r3 =>
  if r3.1 = 0 then
   some (0, r3.2)
  else
   (L_X7_readInto_21 N t0 p1 fu r3.2 0).bind fun z14 =>
  cS z14 (fun w15 => some (1, w15)) (fun q16 => some q16)
set_option maxHeartbeats 4000000 in
set_option maxRecDepth 100000 in
theorem lp_X7_readInto_21 {κ : Kx} {ω : Om} (C : Cx κ 3 3 cX7_readInto RX7 "readInto") (Z : Zx κ ω) {Post : Option Value → Hp → Prop} (E : Rt κ ω (some .boolean) Post) (v0 : Nat) (v1 : Nat) {r : (Hp) ⊕ (Int32 × Hp)} (hE : ∀ x : Int32 × Hp, r = .inr x → Post (some (.int x.1)) x.2) (hk : ∀ u, r = .inl u → X κ 3 ω 60 [none, none, none] [] u) : ∀ (n : Nat) (σ : Hp) (v2 : Int32), L_X7_readInto_21 ω.1 v0 v1 n σ v2 = some r → X κ 3 ω 21 [some (.ref v0), some (.ref v1), some (.int v2)] [] σ := by
  intro n
  induction n with
  | zero => intro σ v2 h; cases h
  | succ n ih =>
    intro σ v2 h
    rw [L_X7_readInto_21.eq_2] at h
    refine x_iload_n C (i := 2) dX7_readInto_21 rfl rfl ?_
    refine x_bipush C (v := 6) dX7_readInto_22 (by decide) ?_
    refine x_icmp_gt C (tgt := 60) dX7_readInto_24 (by decide) (fun c5 => ?_) (fun c5 => ?_)
    · have h := ifP h c5
      refine x_wk [false, false, false] (lo' := [none, none, none]) rfl ?_
      exact hk _ (Option.some.inj h).symm
    · have h := ifN h c5
      refine x_iload_n C (i := 2) dX7_readInto_27 rfl rfl ?_
      refine x_if_le C (tgt := 44) dX7_readInto_28 (by decide) (fun c6 => ?_) (fun c6 => ?_)
      · have h := ifP h c6
        refine x_aload_n C (i := 0) dX7_readInto_44 rfl rfl ?_
        refine x_aload_n C (i := 1) dX7_readInto_45 rfl rfl ?_
        obtain ⟨r7, er7, h⟩ := ob h
        refine x_callVr C Z mv_X7_readDisc lk_X7_31 (rv_h er7) (ct_X7_readDisc er7) (by decide) rfl rfl (Nat.le_of_ble_eq_true rfl) dX7_readInto_46 ?_
        refine x_if_ne C (tgt := 54) dX7_readInto_49 (by decide) (fun c8 => ?_) (fun c8 => ?_)
        · have h := ifN h c8
          refine x_iinc C (i := 2) (y := v2 + 1) (lo' := [some (.ref v0), some (.ref v1), some (.int (v2 + 1))]) dX7_readInto_54 rfl rfl (by decide) rfl rfl ?_
          refine x_goto C (tgt := 21) dX7_readInto_57 (by decide) ?_
          refine x_wk [true, true, true] (lo' := [some (.ref v0), some (.ref v1), some (.int (v2 + 1))]) rfl ?_
          exact ih r7.2 (v2 + 1) h
        · have h := ifP h c8
          refine x_iconst C (v := 0) dX7_readInto_52 (by decide) ?_
          exact x_zret C E (by decide +kernel) dX7_readInto_53 (hE (0, r7.2) (Option.some.inj h).symm)
      · have h := ifN h c6
        refine x_aload_n C (i := 0) dX7_readInto_31 rfl rfl ?_
        obtain ⟨x9, ex9, h⟩ := ob h
        refine x_getI C fl_X7_19 dX7_readInto_32 ex9 ?_
        refine x_aload_n C (i := 0) dX7_readInto_35 rfl rfl ?_
        obtain ⟨x10, ex10, h⟩ := ob h
        refine x_getI C fl_X7_15 dX7_readInto_36 ex10 ?_
        refine x_icmp_lt C (tgt := 44) dX7_readInto_39 (by decide) (fun c11 => ?_) (fun c11 => ?_)
        · have h := ifP h c11
          refine x_aload_n C (i := 0) dX7_readInto_44 rfl rfl ?_
          refine x_aload_n C (i := 1) dX7_readInto_45 rfl rfl ?_
          obtain ⟨r12, er12, h⟩ := ob h
          refine x_callVr C Z mv_X7_readDisc lk_X7_31 (rv_h er12) (ct_X7_readDisc er12) (by decide) rfl rfl (Nat.le_of_ble_eq_true rfl) dX7_readInto_46 ?_
          refine x_if_ne C (tgt := 54) dX7_readInto_49 (by decide) (fun c13 => ?_) (fun c13 => ?_)
          · have h := ifN h c13
            refine x_iinc C (i := 2) (y := v2 + 1) (lo' := [some (.ref v0), some (.ref v1), some (.int (v2 + 1))]) dX7_readInto_54 rfl rfl (by decide) rfl rfl ?_
            refine x_goto C (tgt := 21) dX7_readInto_57 (by decide) ?_
            refine x_wk [true, true, true] (lo' := [some (.ref v0), some (.ref v1), some (.int (v2 + 1))]) rfl ?_
            exact ih r12.2 (v2 + 1) h
          · have h := ifP h c13
            refine x_iconst C (v := 0) dX7_readInto_52 (by decide) ?_
            exact x_zret C E (by decide +kernel) dX7_readInto_53 (hE (0, r12.2) (Option.some.inj h).symm)
        · have h := ifN h c11
          refine x_iconst C (v := 1) dX7_readInto_42 (by decide) ?_
          exact x_zret C E (by decide +kernel) dX7_readInto_43 (hE (1, σ) (Option.some.inj h).symm)
set_option maxHeartbeats 4000000 in
set_option maxRecDepth 100000 in
theorem ct_X7_readInto {l : Launch} {D : va_G} {cy : Nat → Nat} {N : Nat} {σ : Hp} {t0 : Nat} {p1 : Nat} {r : Int32 × Hp} (h : m_X7_readInto N σ t0 p1 = some r) : Ct l D cy yX7_readInto cX7_readInto 3 (some .boolean) 3 [.ref t0, .ref p1] N σ (fun v s' => v = (some (.int r.1)) ∧ s' = r.2) := by
  refine Ct.intro [some (.ref t0), some (.ref p1), none] (by decide) rfl (Nat.le_of_ble_eq_true rfl) ?_
  intro κ ω e1 e2 e3 e4 C Z E
  subst e1; subst e2; subst e3; subst e4
  have C : Cx κ 3 3 cX7_readInto RX7 "readInto" := C
  have hE : ∀ x : Int32 × Hp, r = x → ((some (Value.int x.1)) = (some (Value.int r.1)) ∧ x.2 = r.2) := fun x hx => by subst hx; exact ⟨rfl, rfl⟩
  unfold m_X7_readInto at h
  obtain ⟨_, _, h⟩ := ob h
  refine x_aload_n C (i := 0) dX7_readInto_0 rfl rfl ?_
  refine x_iconst C (v := 0) dX7_readInto_1 (by decide) ?_
  obtain ⟨σ1, eσ1, h⟩ := ob h
  refine x_put C pl_X7_19 dX7_readInto_2 (fun _ => ⟨rfl, rfl⟩) eσ1 ?_
  refine x_aload_n C (i := 1) dX7_readInto_5 rfl rfl ?_
  obtain ⟨r2, er2, h⟩ := ob h
  refine x_callVn C Z mv_X2_clear lk_X7_22 (rv_h er2) (ct_X2_clear er2) (by decide) rfl rfl (Nat.le_of_ble_eq_true rfl) dX7_readInto_6 ?_
  refine x_aload_n C (i := 0) dX7_readInto_9 rfl rfl ?_
  refine x_aload_n C (i := 1) dX7_readInto_10 rfl rfl ?_
  obtain ⟨r3, er3, h⟩ := ob h
  refine x_callVr C Z mv_X7_readLaw lk_X7_27 (rv_h er3) (ct_X7_readLaw er3) (by decide) rfl rfl (Nat.le_of_ble_eq_true rfl) dX7_readInto_11 ?_
  refine x_if_ne C (tgt := 19) dX7_readInto_14 (by decide) (fun c4 => ?_) (fun c4 => ?_)
  · have h := ifN h c4
    refine x_iconst C (v := 0) dX7_readInto_19 (by decide) ?_
    refine x_istore_n C (i := 2) (lo' := [some (.ref t0), some (.ref p1), some (.int 0)]) dX7_readInto_20 rfl (by decide) rfl rfl ?_
    obtain ⟨z14, ez14, h⟩ := ob h
    refine x_wk [true, true, true] (lo' := [some (.ref t0), some (.ref p1), some (.int 0)]) rfl ?_
    refine lp_X7_readInto_21 C Z E t0 p1 (fun q16 hx => by subst hx; have h := cS_r h; exact hE q16 (Option.some.inj h).symm) (fun w15 hu => ?_) _ r3.2 0 ez14
    subst hu
    have h := cS_l h
    refine x_iconst C (v := 1) dX7_readInto_60 (by decide) ?_
    exact x_zret C E (by decide +kernel) dX7_readInto_61 (hE (1, w15) (Option.some.inj h).symm)
  · have h := ifP h c4
    refine x_iconst C (v := 0) dX7_readInto_17 (by decide) ?_
    exact x_zret C E (by decide +kernel) dX7_readInto_18 (hE (0, r3.2) (Option.some.inj h).symm)
theorem dX8_rowAt_0 : decode cX8_rowAt 0 = .ok (.iload_n 1, 1) := by decide +kernel
theorem dX8_rowAt_1 : decode cX8_rowAt 1 = .ok (.ifCond .lt 9, 3) := by decide +kernel
theorem dX8_rowAt_4 : decode cX8_rowAt 4 = .ok (.iload_n 1, 1) := by decide +kernel
theorem dX8_rowAt_5 : decode cX8_rowAt 5 = .ok (.bipush 8, 2) := by decide +kernel
theorem dX8_rowAt_7 : decode cX8_rowAt 7 = .ok (.if_icmp .lt 7, 3) := by decide +kernel
theorem dX8_rowAt_10 : decode cX8_rowAt 10 = .ok (.aconst_null, 1) := by decide +kernel
theorem dX8_rowAt_11 : decode cX8_rowAt 11 = .ok (.goto 9, 3) := by decide +kernel
theorem dX8_rowAt_14 : decode cX8_rowAt 14 = .ok (.aload_n 0, 1) := by decide +kernel
theorem dX8_rowAt_15 : decode cX8_rowAt 15 = .ok (.getfield 11, 3) := by decide +kernel
theorem dX8_rowAt_18 : decode cX8_rowAt 18 = .ok (.iload_n 1, 1) := by decide +kernel
theorem dX8_rowAt_19 : decode cX8_rowAt 19 = .ok (.aaload, 1) := by decide +kernel
theorem dX8_rowAt_20 : decode cX8_rowAt 20 = .ok (.areturn, 1) := by decide +kernel
def m_X8_rowAt (N : Nat) (σ : Hp) (t0 : Nat) (p1 : Int32) : Option (Option Nat) :=
  (rv N σ t0 8).bind fun _ =>
  if p1 < 0 then
   some none
  else
   if p1 < 8 then
   (gR N σ t0 8 0).bind fun x3 =>
  (aR 5 N σ x3 p1).bind fun x4 =>
  some (some x4)
  else
   some none
set_option maxHeartbeats 4000000 in
set_option maxRecDepth 100000 in
theorem ct_X8_rowAt {l : Launch} {D : va_G} {cy : Nat → Nat} {N : Nat} {σ : Hp} {t0 : Nat} {p1 : Int32} {r : Option Nat} (h : m_X8_rowAt N σ t0 p1 = some r) : Ct l D cy yX8_rowAt cX8_rowAt 2 (some (.object "PegDiscs$Row")) 0 [.ref t0, .int p1] N σ (fun v s' => v = (some (va_rf r)) ∧ s' = σ) := by
  refine Ct.intro [some (.ref t0), some (.int p1)] (by decide) rfl (Nat.le_of_ble_eq_true rfl) ?_
  intro κ ω e1 e2 e3 e4 C Z E
  subst e1; subst e2; subst e3; subst e4
  have C : Cx κ 2 0 cX8_rowAt RX8 "rowAt" := C
  have hE : ∀ x : Option Nat, r = x → ((some (va_rf x)) = (some (va_rf r)) ∧ σ = σ) := fun x hx => by subst hx; exact ⟨rfl, rfl⟩
  unfold m_X8_rowAt at h
  obtain ⟨_, _, h⟩ := ob h
  refine x_iload_n C (i := 1) dX8_rowAt_0 rfl rfl ?_
  refine x_if_lt C (tgt := 10) dX8_rowAt_1 (by decide) (fun c1 => ?_) (fun c1 => ?_)
  · have h := ifP h c1
    refine x_null C dX8_rowAt_10 ?_
    refine x_goto C (tgt := 20) dX8_rowAt_11 (by decide) ?_
    exact x_aretQ C E dX8_rowAt_20 (hE none (Option.some.inj h).symm)
  · have h := ifN h c1
    refine x_iload_n C (i := 1) dX8_rowAt_4 rfl rfl ?_
    refine x_bipush C (v := 8) dX8_rowAt_5 (by decide) ?_
    refine x_icmp_lt C (tgt := 14) dX8_rowAt_7 (by decide) (fun c2 => ?_) (fun c2 => ?_)
    · have h := ifP h c2
      refine x_aload_n C (i := 0) dX8_rowAt_14 rfl rfl ?_
      obtain ⟨x3, ex3, h⟩ := ob h
      refine x_getR C fl_X8_11 dX8_rowAt_15 ex3 ?_
      refine x_iload_n C (i := 1) dX8_rowAt_18 rfl rfl ?_
      obtain ⟨x4, ex4, h⟩ := ob h
      refine x_aald5 C dX8_rowAt_19 ex4 ?_
      exact x_aretQ C E dX8_rowAt_20 (hE (some x4) (Option.some.inj h).symm)
    · have h := ifN h c2
      refine x_null C dX8_rowAt_10 ?_
      refine x_goto C (tgt := 20) dX8_rowAt_11 (by decide) ?_
      exact x_aretQ C E dX8_rowAt_20 (hE none (Option.some.inj h).symm)
theorem dX8_found_0 : decode cX8_found 0 = .ok (.aload_n 0, 1) := by decide +kernel
theorem dX8_found_1 : decode cX8_found 1 = .ok (.iload_n 1, 1) := by decide +kernel
theorem dX8_found_2 : decode cX8_found 2 = .ok (.putfield 274, 3) := by decide +kernel
theorem dX8_found_5 : decode cX8_found 5 = .ok (.ldc_w 277, 3) := by decide +kernel
theorem dX8_found_8 : decode cX8_found 8 = .ok (.iload_n 1, 1) := by decide +kernel
theorem dX8_found_9 : decode cX8_found 9 = .ok (.isub, 1) := by decide +kernel
theorem dX8_found_10 : decode cX8_found 10 = .ok (.ireturn, 1) := by decide +kernel
def m_X8_found (N : Nat) (σ : Hp) (t0 : Nat) (p1 : Int32) : Option (Int32 × Hp) :=
  (rv N σ t0 8).bind fun _ =>
  (pV N σ t0 8 11 (.int p1)).bind fun σ1 =>
  some (((-1000010) : Int32) - p1, σ1)
set_option maxHeartbeats 4000000 in
set_option maxRecDepth 100000 in
theorem ct_X8_found {l : Launch} {D : va_G} {cy : Nat → Nat} {N : Nat} {σ : Hp} {t0 : Nat} {p1 : Int32} {r : Int32 × Hp} (h : m_X8_found N σ t0 p1 = some r) : Ct l D cy yX8_found cX8_found 2 (some .int) 0 [.ref t0, .int p1] N σ (fun v s' => v = (some (.int r.1)) ∧ s' = r.2) := by
  refine Ct.intro [some (.ref t0), some (.int p1)] (by decide) rfl (Nat.le_of_ble_eq_true rfl) ?_
  intro κ ω e1 e2 e3 e4 C Z E
  subst e1; subst e2; subst e3; subst e4
  have C : Cx κ 2 0 cX8_found RX8 "found" := C
  have hE : ∀ x : Int32 × Hp, r = x → ((some (Value.int x.1)) = (some (Value.int r.1)) ∧ x.2 = r.2) := fun x hx => by subst hx; exact ⟨rfl, rfl⟩
  unfold m_X8_found at h
  obtain ⟨_, _, h⟩ := ob h
  refine x_aload_n C (i := 0) dX8_found_0 rfl rfl ?_
  refine x_iload_n C (i := 1) dX8_found_1 rfl rfl ?_
  obtain ⟨σ1, eσ1, h⟩ := ob h
  refine x_put C pl_X8_274 dX8_found_2 (fun _ => ⟨rfl, rfl⟩) eσ1 ?_
  refine x_ldcw C kc_X8_277 dX8_found_5 ?_
  refine x_iload_n C (i := 1) dX8_found_8 rfl rfl ?_
  refine x_isub C dX8_found_9 ?_
  exact x_iret C E dX8_found_10 (hE (((-1000010) : Int32) - p1, σ1) (Option.some.inj h).symm)
theorem dX8_well_0 : decode cX8_well 0 = .ok (.aload_n 0, 1) := by decide +kernel
theorem dX8_well_1 : decode cX8_well 1 = .ok (.iconst 0, 1) := by decide +kernel
theorem dX8_well_2 : decode cX8_well 2 = .ok (.putfield 274, 3) := by decide +kernel
theorem dX8_well_5 : decode cX8_well 5 = .ok (.iload_n 1, 1) := by decide +kernel
theorem dX8_well_6 : decode cX8_well 6 = .ok (.ireturn, 1) := by decide +kernel
def m_X8_well (N : Nat) (σ : Hp) (t0 : Nat) (p1 : Int32) : Option (Int32 × Hp) :=
  (rv N σ t0 8).bind fun _ =>
  (pV N σ t0 8 11 (.int 0)).bind fun σ1 =>
  some (p1, σ1)
set_option maxHeartbeats 4000000 in
set_option maxRecDepth 100000 in
theorem ct_X8_well {l : Launch} {D : va_G} {cy : Nat → Nat} {N : Nat} {σ : Hp} {t0 : Nat} {p1 : Int32} {r : Int32 × Hp} (h : m_X8_well N σ t0 p1 = some r) : Ct l D cy yX8_well cX8_well 2 (some .int) 0 [.ref t0, .int p1] N σ (fun v s' => v = (some (.int r.1)) ∧ s' = r.2) := by
  refine Ct.intro [some (.ref t0), some (.int p1)] (by decide) rfl (Nat.le_of_ble_eq_true rfl) ?_
  intro κ ω e1 e2 e3 e4 C Z E
  subst e1; subst e2; subst e3; subst e4
  have C : Cx κ 2 0 cX8_well RX8 "well" := C
  have hE : ∀ x : Int32 × Hp, r = x → ((some (Value.int x.1)) = (some (Value.int r.1)) ∧ x.2 = r.2) := fun x hx => by subst hx; exact ⟨rfl, rfl⟩
  unfold m_X8_well at h
  obtain ⟨_, _, h⟩ := ob h
  refine x_aload_n C (i := 0) dX8_well_0 rfl rfl ?_
  refine x_iconst C (v := 0) dX8_well_1 (by decide) ?_
  obtain ⟨σ1, eσ1, h⟩ := ob h
  refine x_put C pl_X8_274 dX8_well_2 (fun _ => ⟨rfl, rfl⟩) eσ1 ?_
  refine x_iload_n C (i := 1) dX8_well_5 rfl rfl ?_
  exact x_iret C E dX8_well_6 (hE (p1, σ1) (Option.some.inj h).symm)
theorem dX8_row_0 : decode cX8_row 0 = .ok (.aload_n 0, 1) := by decide +kernel
theorem dX8_row_1 : decode cX8_row 1 = .ok (.iload_n 1, 1) := by decide +kernel
theorem dX8_row_2 : decode cX8_row 2 = .ok (.invokevirtual 51, 3) := by decide +kernel
theorem dX8_row_5 : decode cX8_row 5 = .ok (.astore 4, 2) := by decide +kernel
theorem dX8_row_7 : decode cX8_row 7 = .ok (.aload 4, 2) := by decide +kernel
theorem dX8_row_9 : decode cX8_row 9 = .ok (.ifnull 18, 3) := by decide +kernel
theorem dX8_row_12 : decode cX8_row 12 = .ok (.iload_n 2, 1) := by decide +kernel
theorem dX8_row_13 : decode cX8_row 13 = .ok (.ifCond .lt 14, 3) := by decide +kernel
theorem dX8_row_16 : decode cX8_row 16 = .ok (.iload_n 2, 1) := by decide +kernel
theorem dX8_row_17 : decode cX8_row 17 = .ok (.iconst 2, 1) := by decide +kernel
theorem dX8_row_18 : decode cX8_row 18 = .ok (.if_icmp .gt 9, 3) := by decide +kernel
theorem dX8_row_21 : decode cX8_row 21 = .ok (.iload_n 3, 1) := by decide +kernel
theorem dX8_row_22 : decode cX8_row 22 = .ok (.bipush 40, 2) := by decide +kernel
theorem dX8_row_24 : decode cX8_row 24 = .ok (.if_icmp .le 6, 3) := by decide +kernel
theorem dX8_row_27 : decode cX8_row 27 = .ok (.ldc 55, 2) := by decide +kernel
theorem dX8_row_29 : decode cX8_row 29 = .ok (.ireturn, 1) := by decide +kernel
theorem dX8_row_30 : decode cX8_row 30 = .ok (.iload_n 3, 1) := by decide +kernel
theorem dX8_row_31 : decode cX8_row 31 = .ok (.ifCond .ge 9, 3) := by decide +kernel
theorem dX8_row_34 : decode cX8_row 34 = .ok (.aload_n 0, 1) := by decide +kernel
theorem dX8_row_35 : decode cX8_row 35 = .ok (.iconst 4, 1) := by decide +kernel
theorem dX8_row_36 : decode cX8_row 36 = .ok (.invokevirtual 56, 3) := by decide +kernel
theorem dX8_row_39 : decode cX8_row 39 = .ok (.ireturn, 1) := by decide +kernel
theorem dX8_row_40 : decode cX8_row 40 = .ok (.aload 4, 2) := by decide +kernel
theorem dX8_row_42 : decode cX8_row 42 = .ok (.iload_n 2, 1) := by decide +kernel
theorem dX8_row_43 : decode cX8_row 43 = .ok (.iload_n 3, 1) := by decide +kernel
theorem dX8_row_44 : decode cX8_row 44 = .ok (.invokevirtual 60, 3) := by decide +kernel
theorem dX8_row_47 : decode cX8_row 47 = .ok (.aload_n 0, 1) := by decide +kernel
theorem dX8_row_48 : decode cX8_row 48 = .ok (.iload_n 3, 1) := by decide +kernel
theorem dX8_row_49 : decode cX8_row 49 = .ok (.invokevirtual 64, 3) := by decide +kernel
theorem dX8_row_52 : decode cX8_row 52 = .ok (.ireturn, 1) := by decide +kernel
def m_X8_row (N : Nat) (σ : Hp) (t0 : Nat) (p1 : Int32) (p2 : Int32) (p3 : Int32) : Option (Int32 × Hp) :=
  (rv N σ t0 8).bind fun _ =>
  (m_X8_rowAt N σ t0 p1).bind fun r1 =>
  cQ r1 (
   some ((-1000001), σ)) (fun q2 =>
   if p2 < 0 then
   some ((-1000001), σ)
  else
   if 2 < p2 then
   some ((-1000001), σ)
  else
   if p3 ≤ 40 then
   if 0 ≤ p3 then
   (m_X5_begin N σ q2 p2 p3).bind fun r7 =>
  (m_X8_well N r7 t0 p3).bind fun r8 =>
  some (r8.1, r8.2)
  else
   (m_X8_found N σ t0 4).bind fun r9 =>
  some (r9.1, r9.2)
  else
   some ((-1000001), σ))
set_option maxHeartbeats 4000000 in
set_option maxRecDepth 100000 in
theorem ct_X8_row {l : Launch} {D : va_G} {cy : Nat → Nat} {N : Nat} {σ : Hp} {t0 : Nat} {p1 : Int32} {p2 : Int32} {p3 : Int32} {r : Int32 × Hp} (h : m_X8_row N σ t0 p1 p2 p3 = some r) : Ct l D cy yX8_row cX8_row 5 (some .int) 2 [.ref t0, .int p1, .int p2, .int p3] N σ (fun v s' => v = (some (.int r.1)) ∧ s' = r.2) := by
  refine Ct.intro [some (.ref t0), some (.int p1), some (.int p2), some (.int p3), none] (by decide) rfl (Nat.le_of_ble_eq_true rfl) ?_
  intro κ ω e1 e2 e3 e4 C Z E
  subst e1; subst e2; subst e3; subst e4
  have C : Cx κ 5 2 cX8_row RX8 "row" := C
  have hE : ∀ x : Int32 × Hp, r = x → ((some (Value.int x.1)) = (some (Value.int r.1)) ∧ x.2 = r.2) := fun x hx => by subst hx; exact ⟨rfl, rfl⟩
  unfold m_X8_row at h
  obtain ⟨_, _, h⟩ := ob h
  refine x_aload_n C (i := 0) dX8_row_0 rfl rfl ?_
  refine x_iload_n C (i := 1) dX8_row_1 rfl rfl ?_
  obtain ⟨r1, er1, h⟩ := ob h
  refine x_callVr C Z mv_X8_rowAt lk_X8_51 (rv_h er1) (ct_X8_rowAt er1) (by decide) rfl rfl (Nat.le_of_ble_eq_true rfl) dX8_row_2 ?_
  refine x_astoreQ C (i := 4) (lo' := [some (.ref t0), some (.int p1), some (.int p2), some (.int p3), some (va_rf r1)]) dX8_row_5 (by decide) rfl rfl ?_
  refine x_aloadQ C (i := 4) dX8_row_7 rfl ?_
  refine x_ifnull C (tgt := 27) dX8_row_9 (by decide) (fun hq => ?_) (fun q2 hq => ?_)
  · subst hq
    have h := cQ_n h
    refine x_ldc C kc_X8_55 dX8_row_27 ?_
    exact x_iret C E dX8_row_29 (hE ((-1000001), σ) (Option.some.inj h).symm)
  · subst hq
    have h := cQ_s h
    refine x_iload_n C (i := 2) dX8_row_12 rfl rfl ?_
    refine x_if_lt C (tgt := 27) dX8_row_13 (by decide) (fun c3 => ?_) (fun c3 => ?_)
    · have h := ifP h c3
      refine x_ldc C kc_X8_55 dX8_row_27 ?_
      exact x_iret C E dX8_row_29 (hE ((-1000001), σ) (Option.some.inj h).symm)
    · have h := ifN h c3
      refine x_iload_n C (i := 2) dX8_row_16 rfl rfl ?_
      refine x_iconst C (v := 2) dX8_row_17 (by decide) ?_
      refine x_icmp_gt C (tgt := 27) dX8_row_18 (by decide) (fun c4 => ?_) (fun c4 => ?_)
      · have h := ifP h c4
        refine x_ldc C kc_X8_55 dX8_row_27 ?_
        exact x_iret C E dX8_row_29 (hE ((-1000001), σ) (Option.some.inj h).symm)
      · have h := ifN h c4
        refine x_iload_n C (i := 3) dX8_row_21 rfl rfl ?_
        refine x_bipush C (v := 40) dX8_row_22 (by decide) ?_
        refine x_icmp_le C (tgt := 30) dX8_row_24 (by decide) (fun c5 => ?_) (fun c5 => ?_)
        · have h := ifP h c5
          refine x_iload_n C (i := 3) dX8_row_30 rfl rfl ?_
          refine x_if_ge C (tgt := 40) dX8_row_31 (by decide) (fun c6 => ?_) (fun c6 => ?_)
          · have h := ifP h c6
            refine x_aload C (i := 4) dX8_row_40 rfl ?_
            refine x_iload_n C (i := 2) dX8_row_42 rfl rfl ?_
            refine x_iload_n C (i := 3) dX8_row_43 rfl rfl ?_
            obtain ⟨r7, er7, h⟩ := ob h
            refine x_callVn C Z mv_X5_begin lk_X8_60 (rv_h er7) (ct_X5_begin er7) (by decide) rfl rfl (Nat.le_of_ble_eq_true rfl) dX8_row_44 ?_
            refine x_aload_n C (i := 0) dX8_row_47 rfl rfl ?_
            refine x_iload_n C (i := 3) dX8_row_48 rfl rfl ?_
            obtain ⟨r8, er8, h⟩ := ob h
            refine x_callVr C Z mv_X8_well lk_X8_64 (rv_h er8) (ct_X8_well er8) (by decide) rfl rfl (Nat.le_of_ble_eq_true rfl) dX8_row_49 ?_
            exact x_iret C E dX8_row_52 (hE (r8.1, r8.2) (Option.some.inj h).symm)
          · have h := ifN h c6
            refine x_aload_n C (i := 0) dX8_row_34 rfl rfl ?_
            refine x_iconst C (v := 4) dX8_row_35 (by decide) ?_
            obtain ⟨r9, er9, h⟩ := ob h
            refine x_callVr C Z mv_X8_found lk_X8_56 (rv_h er9) (ct_X8_found er9) (by decide) rfl rfl (Nat.le_of_ble_eq_true rfl) dX8_row_36 ?_
            exact x_iret C E dX8_row_39 (hE (r9.1, r9.2) (Option.some.inj h).symm)
        · have h := ifN h c5
          refine x_ldc C kc_X8_55 dX8_row_27 ?_
          exact x_iret C E dX8_row_29 (hE ((-1000001), σ) (Option.some.inj h).symm)
