/-! the reference: board -/
section MB2
variable {N m : Nat} {f : Nat → Int32} {a : Nat → Nat → Int32} {b : Nat → Nat → Int64} {s : AS} {σ : Hp}
/-- all rows but the board that is read are as they were -/
def A27 (a a' : Nat → Nat → Int32) : Prop := (∀ i, i ≠ 58 → a' i = a i) ∧ ∀ i, i < 432 → a' 58 i = a 58 i
theorem A27.refl {a : Nat → Nat → Int32} : A27 a a := ⟨fun _ _ => rfl, fun _ _ => rfl⟩
theorem A27.tr {a a' a'' : Nat → Nat → Int32} (h1 : A27 a a') (h2 : A27 a' a'') : A27 a a'' := ⟨fun i hi => by rw [h2.1 i hi, h1.1 i hi], fun i hi => by rw [h2.2 i hi, h1.2 i hi]⟩
theorem A27.up {a : Nat → Nat → Int32} {k : Nat} {v : Int32} (hk : 432 ≤ k) : A27 a (va_up a 58 (upd (a 58) k v)) := ⟨fun i hi => vup_n hi, fun i hi => by rw [vup_s, upd_n (by omega)]⟩
theorem TPm.a27 {a' : Nat → Nat → Int32} (h : TPm f a s) (ha : A27 a a') : TPm f a' s := ⟨h.1, h.2.1, fun j hj => ⟨(h.2.2 j hj).1, by rw [ha.1 57 (by decide)]; exact (h.2.2 j hj).2⟩⟩
theorem n123 {w : Nat} (h1 : 1 ≤ w) (h2 : w ≤ 3) : ¬ nI w = 0 := nI_ne0 (by omega) (by omega)
theorem discItem_ok (hN : 66 ≤ N) (h : TPm f a s) (h9 : f 9 = 0) {p P H n : Nat} {bd : AB} (h7 : f 7 = nI p) (hp : p ≤ s.tl) (hB : ABm (a 58) 27 bd) (hV : VP P H n bd) (hP : P = 3 ∨ P = 4) : ∃ f' a', m_X9_discItem N (MH σ f a b) 53 432 = some (MH σ f' a' b) ∧ F789 f f' ∧ A27 a a' ∧ match pDisc s bd p with
    | .inl (w, pl) => f' 9 = nI w ∧ f' 8 = nI pl
    | .inr (b', q) => f' 9 = 0 ∧ f' 7 = nI q ∧ ABm (a' 58) 27 b' := by
  have h60 := h.2.1
  obtain ⟨v1, v2, v3, v4, v5, _⟩ := hV
  have hbt : ∀ j, j < s.tl → s.tb j < 256 := fun j hj => (h.2.2 j hj).1
  have eD : a 58 434 = nI n := by rw [show 434 = 16 * 27 + 2 from rfl, hB.2.2.1, v3]
  have eP : a 58 432 = nI P := by rw [show 432 = 16 * 27 from rfl, hB.1, v1]
  unfold m_X9_discItem
  rw [MH_rv hN, MH_f7 hN, h7]
  simp only [Option.bind_some]
  rw [byteAt_ok hN h (by omega)]
  simp only [Option.bind_some]
  rw [sortOf_ok hbt]
  simp only [Option.bind_some]
  rw [MH_put (j := 7) hN (by omega), nI_1]
  simp only [Option.bind_some]
  have u9 : upd f 7 (nI (p + 1)) 9 = 0 := by rw [upd_n (by decide)]; exact h9
  unfold pDisc
  rw [show (432 : Int32) + 2 = nI 434 by decide +kernel]
  by_cases c1 : srt (bt s p) = 0
  · rw [c1, if_pos nI_0, if_pos rfl, fails_ok hN, u9, if_pos rfl]
    simp only [Option.bind_some]
    rw [MH_r10 hN]
    simp only [Option.bind_some]
    rw [MH_a58 hN (by omega), eD]
    simp only [Option.bind_some]
    have e9 : upd (upd (upd f 7 (nI (p + 1))) 9 1) 8 (nI p) 9 = 1 := by rw [upd_n (by decide), upd_s]
    have hh : (if nI n = 6 then (m_X9_fails N (MH σ (upd (upd (upd f 7 (nI (p + 1))) 9 1) 8 (nI p)) a b) 53 (nI p) 3).bind fun r33 => some r33 else some (MH σ (upd (upd (upd f 7 (nI (p + 1))) 9 1) 8 (nI p)) a b)) = some (MH σ (upd (upd (upd f 7 (nI (p + 1))) 9 1) 8 (nI p)) a b) := by
      by_cases c : nI n = 6
      · rw [if_pos c, fails_ok hN, e9, if_neg (by decide +kernel)]; rfl
      · rw [if_neg c]
    rw [hh]
    simp only [Option.bind_some]
    rw [MH_f9 hN, e9]
    simp only [Option.bind_some]
    rw [if_neg (by decide +kernel)]
    refine ⟨_, a, rfl, fun i x y z => by rw [upd_n y, upd_n z, upd_n x], A27.refl, e9, upd_s⟩
  · have hs := srt_le (bt s p)
    have hpl := srt_ne c1
    rw [if_neg (nI_ne0 (by omega) (by omega)), if_neg c1]
    simp only [Option.bind_some]
    rw [MH_r10 hN]
    simp only [Option.bind_some]
    rw [MH_a58 hN (by omega), eD, v3]
    simp only [Option.bind_some]
    by_cases c2 : n = 6
    · subst c2
      rw [if_pos (show nI 6 = 6 from rfl), if_pos rfl, fails_ok hN, u9, if_pos rfl]
      simp only [Option.bind_some]
      have e9 : upd (upd (upd f 7 (nI (p + 1))) 9 3) 8 (nI p) 9 = 3 := by rw [upd_n (by decide), upd_s]
      rw [MH_f9 hN, e9]
      simp only [Option.bind_some]
      rw [if_neg (by decide +kernel)]
      refine ⟨_, a, rfl, fun i x y z => by rw [upd_n y, upd_n z, upd_n x], A27.refl, e9, upd_s⟩
    · rw [if_neg (show ¬ nI n = 6 from ni_ne (b := 6) (by omega) (by omega) c2), if_neg c2]
      simp only [Option.bind_some]
      rw [MH_f9 hN, u9]
      simp only [Option.bind_some, if_true]
      rw [MH_r10 hN]
      simp only [Option.bind_some]
      rw [show (432 : Int32) = nI 432 from rfl, MH_a58 hN (by omega), eP]
      simp only [Option.bind_some]
      obtain ⟨f1, x, g1, g2, g3⟩ := num_ok (N := N) (b := b) (σ := σ) (lo := 0) (hi := P - 1) hN (h.fr (F789.u7 (v := nI (p + 1)))) u9 upd_s (by omega) (by omega) (by omega)
      rw [show nI P - 1 = nI (P - 1) by rw [show (1 : Int32) = nI 1 from rfl, pk_sub (by omega)], show (0 : Int32) = nI 0 from rfl, g1, v1]
      simp only [Option.bind_some]
      have fr1 : F789 f f1 := F789.u7.tr g2
      have t1 : TPm f1 a s := h.fr fr1
      cases e : pNum s (p + 1) 0 (P - 1) with
      | inl r =>
        obtain ⟨w, pl⟩ := r
        rw [e] at g3
        obtain ⟨k1, k2, q, k3, k4⟩ := g3
        obtain ⟨w1, w2, _⟩ := pNum_inl e
        have n9 : f1 9 ≠ 0 := by rw [k1]; exact n123 w1 w2
        obtain ⟨f2, l1, l2, l3, l4⟩ := sign_bad (N := N) (b := b) (σ := σ) hN t1 n9 k4 (by omega) 59
        rw [l1]
        simp only [Option.bind_some]
        rw [MH_f9 hN]
        simp only [Option.bind_some]
        rw [if_neg (show ¬ f2 9 = nI 0 by rw [l3]; exact n9)]
        exact ⟨f2, a, rfl, fr1.tr l2, A27.refl, by rw [l3]; exact k1, by rw [l4]; exact k2⟩
      | inr r =>
        obtain ⟨v, q⟩ := r
        rw [e] at g3
        obtain ⟨k1, k2, k3⟩ := g3
        obtain ⟨n1, n2, n3, n4, n5⟩ := pNum_inr e
        obtain ⟨f2, l1, l2, l3⟩ := sign_ok (N := N) (b := b) (σ := σ) (c := 59) hN t1 k1 k2 (by omega) (by omega)
        rw [show (59 : Int32) = nI 59 from rfl, l1]
        simp only [Option.bind_some]
        rw [MH_f9 hN]
        simp only [Option.bind_some]
        cases e2 : pSg s 59 q with
        | inl r =>
          obtain ⟨w, pl⟩ := r
          rw [e2] at l3
          obtain ⟨rfl, _, _⟩ := pSg_inl e2
          rw [if_neg (show ¬ f2 9 = nI 0 by rw [l3.1]; decide +kernel)]
          exact ⟨f2, a, rfl, fr1.tr l2, A27.refl, l3.1, l3.2⟩
        | inr q' =>
          rw [e2] at l3
          rw [if_pos (show f2 9 = nI 0 from l3.1), MH_r10 hN]
          simp only [Option.bind_some]
          rw [MH_a58 hN (by omega), eD]
          simp only [Option.bind_some]
          rw [show nI 432 + 4 = nI 436 by decide +kernel, nI_add, MH_s58 hN (by omega)]
          simp only [Option.bind_some]
          rw [MH_r10 hN]
          simp only [Option.bind_some]
          rw [MH_a58 hN (by omega), vup_s, upd_n (by omega), eD]
          simp only [Option.bind_some]
          rw [show nI 432 + 10 = nI 442 by decide +kernel, nI_add, k3, MH_s58 hN (by omega), vup_s, vup_vup]
          simp only [Option.bind_some]
          rw [MH_r10 hN]
          simp only [Option.bind_some]
          rw [MH_a58 hN (by omega), vup_s, upd_n (by omega), upd_n (by omega), eD]
          simp only [Option.bind_some]
          rw [MH_s58 hN (by omega), vup_s, vup_vup, nI_1]
          simp only [Option.bind_some]
          refine ⟨_, _, rfl, fr1.tr l2, ⟨fun i hi => vup_n hi, fun i hi => by rw [vup_s, upd_n (by omega), upd_n (by omega), upd_n (by omega)]⟩, l3.1, l3.2, ?_⟩
          rw [vup_s]
          obtain ⟨b1, b2, b3, b4, b5⟩ := hB
          refine ⟨?_, ?_, ?_, ?_, fun d hd => ?_⟩
          · rw [upd_n (by omega), upd_n (by omega), upd_n (by omega)]; exact b1
          · rw [upd_n (by omega), upd_n (by omega), upd_n (by omega)]; exact b2
          · rw [show 16 * 27 + 2 = 434 from rfl, upd_s, ← v3]; rfl
          · rw [upd_n (by omega), upd_n (by omega), upd_n (by omega)]; exact b4
          · show upd (upd (upd (a 58) (436 + n) (nI (srt (bt s p)))) (442 + n) (nI v)) 434 (nI (n + 1)) (16 * 27 + 4 + d) = nI (va_up bd.kd bd.D (srt (bt s p)) d) ∧ upd (upd (upd (a 58) (436 + n) (nI (srt (bt s p)))) (442 + n) (nI v)) 434 (nI (n + 1)) (16 * 27 + 10 + d) = nI (va_up bd.pg bd.D v d)
            rw [v3]
            by_cases ed : d = n
            · subst ed
              rw [vup_s, vup_s, upd_n (by omega), upd_n (by omega), show 16 * 27 + 4 + d = 436 + d by omega, upd_s, upd_n (by omega), show 16 * 27 + 10 + d = 442 + d by omega, upd_s]
              exact ⟨rfl, rfl⟩
            · rw [vup_n ed, vup_n ed, upd_n (by omega), upd_n (by omega), upd_n (by omega), upd_n (by omega), upd_n (by omega), upd_n (by omega)]
              exact b5 d hd
theorem board_loop (hN : 66 ≤ N) {P H : Nat} (hP : P = 3 ∨ P = 4) : ∀ (r n t p : Nat) (bd : AB) (f : Nat → Int32) (a : Nat → Nat → Int32), VP P H n bd → n + r = 7 → r < t → TPm f a s → f 9 = 0 → f 7 = nI p → p ≤ s.tl → (p < s.tl ∨ n = 0) → ABm (a 58) 27 bd → ∃ f' a', L_X9_board_120 N 53 432 t (MH σ f a b) = some (MH σ f' a' b) ∧ F789 f f' ∧ A27 a a' ∧ match pDiscs s r bd p with
    | .inl (w, pl) => f' 9 = nI w ∧ f' 8 = nI pl
    | .inr b' => f' 9 = 0 ∧ ABm (a' 58) 27 b' := by
  intro r
  induction r with
  | zero => intro n t p bd f a hV hr; have := hV.2.2.2.2.1; omega
  | succ r ih =>
    intro n t p bd f a hV hr ht h h9 h7 hp hpn hB
    have h60 := h.2.1
    obtain ⟨t, rfl⟩ : ∃ k, t = k + 1 := ⟨t - 1, by omega⟩
    have hD : bd.D = n := hV.2.2.1
    have eD : a 58 434 = nI n := by rw [show 434 = 16 * 27 + 2 from rfl, hB.2.2.1, hD]
    obtain ⟨f1, a1, g1, g2, g3, g4⟩ := discItem_ok (N := N) (b := b) (σ := σ) hN h h9 h7 hp hB hV hP
    have hstep : L_X9_board_120 N 53 432 (t + 1) (MH σ f a b) = L_X9_board_120 N 53 432 t (MH σ f1 a1 b) := by
      rw [L_X9_board_120.eq_2, MH_f9 hN, h9]
      simp only [Option.bind_some, if_true]
      rw [MH_f7 hN, h7, MH_f4 hN, h.1]
      simp only [Option.bind_some]
      rw [g1]
      by_cases c : p < s.tl
      · rw [if_pos (by rw [nI_ltI (by omega) (by omega)]; exact c)]
        rfl
      · rw [if_neg (by rw [nI_ltI (by omega) (by omega)]; exact c), MH_r10 hN]
        simp only [Option.bind_some]
        rw [show (432 : Int32) + 2 = nI 434 by decide +kernel, MH_a58 hN (by omega), eD]
        simp only [Option.bind_some]
        rw [if_pos (show nI n = 0 by obtain rfl : n = 0 := by omega
                                     rfl)]
    rw [hstep, pDiscs]
    obtain ⟨t, rfl⟩ : ∃ k, t = k + 1 := ⟨t - 1, by omega⟩
    cases e : pDisc s bd p with
    | inl x =>
      obtain ⟨w, pl⟩ := x
      rw [e] at g4
      obtain ⟨w1, w2, _⟩ := pDisc_inl hp e
      refine ⟨f1, a1, ?_, g2, g3, g4⟩
      rw [L_X9_board_120.eq_2, MH_f9 hN, g4.1]
      simp only [Option.bind_some]
      rw [if_neg (n123 w1 w2)]
    | inr x =>
      obtain ⟨b', q⟩ := x
      rw [e] at g4
      obtain ⟨k1, k2, k3⟩ := g4
      obtain ⟨d1, d2, d3, d4, v, d5, rfl⟩ := pDisc_inr e
      have hV2 := hV.add (k := srt (bt s p)) (v := v) (by omega) ⟨by omega, srt_le _⟩ (by have := hV.1; omega)
      by_cases c : q < s.tl
      · obtain ⟨f2, a2, l1, l2, l3, l4⟩ := ih (n + 1) (t + 1) q _ f1 a1 hV2 (by omega) (by omega) ((h.fr g2).a27 g3) k1 k2 d3 (Or.inl c) k3
        refine ⟨f2, a2, l1, g2.tr l2, g3.tr l3, ?_⟩
        simp only [c, if_true]
        exact l4
      · refine ⟨f1, a1, ?_, g2, g3, ?_⟩
        · have h1 := (h.fr g2).1
          rw [L_X9_board_120.eq_2, MH_f9 hN, k1]
          simp only [Option.bind_some, if_true]
          rw [MH_f7 hN, k2, MH_f4 hN, h1]
          simp only [Option.bind_some]
          rw [if_neg (by rw [nI_ltI (by omega) (by omega)]; exact c), MH_r10 hN]
          simp only [Option.bind_some]
          rw [show (432 : Int32) + 2 = nI 434 by decide +kernel, MH_a58 hN (by omega), show a1 58 434 = nI (n + 1) by rw [show 434 = 16 * 27 + 2 from rfl, k3.2.2.1, hV2.2.2.1]]
          simp only [Option.bind_some]
          have := hV.2.2.2.2.1
          rw [if_neg (nI_ne0 (by omega) (by omega))]
        · simp only [c, if_false]
          exact ⟨k1, k3⟩
/-- the pieces of board, from the last on -/
def brd5 (N : Nat) (z19 : Hp) : Option (Int32 × Hp) :=
  (L_X9_board_120 N 53 432 fu z19).bind fun z30 =>
  (gI N z30 53 9 8).bind fun x31 =>
  (gI N z30 53 9 4).bind fun x32 =>
  (m_X9_smaller x31 x32).bind fun r33 =>
  (pV N z30 53 9 4 (.int 0)).bind fun σ34 =>
  (gI N σ34 53 9 9).bind fun x35 =>
  if x35 = 0 then
   (m_X9_copies N σ34 53 432 0).bind fun r37 =>
  (pV N r37 53 9 11 (.int 0)).bind fun σ38 =>
  (gR N σ38 53 9 10).bind fun x39 =>
  (aI 0 N σ38 x39 2).bind fun x40 =>
  some (x40, σ38)
  else
   (gI N σ34 53 9 9).bind fun x41 =>
  (pV N σ34 53 9 6 (.int x41)).bind fun σ42 =>
  some (((-1000100) : Int32) - r33, σ42)
def brd4 (N : Nat) (σ17 : Hp) : Option (Int32 × Hp) :=
  (gI N σ17 53 9 9).bind fun x18 =>
  ((if x18 = 0 then
   (m_X9_sign N σ17 53 59).bind fun r46 =>
  some r46
  else
   some σ17) : Option (Hp)).bind fun z19 => brd5 N z19
def brd3 (N : Nat) (z13 : Hp) : Option (Int32 × Hp) :=
  (gR N z13 53 9 10).bind fun x14 =>
  (gI N z13 53 9 9).bind fun x15 =>
  ((if x15 = 0 then
   (m_X9_number N z13 53 1 6 (-1)).bind fun r50 =>
  some (r50.1, r50.2)
  else
   some (0, z13)) : Option (Int32 × Hp)).bind fun z16 =>
  (sI 0 N z16.2 x14 ((432 : Int32) + 1) z16.1).bind fun σ17 => brd4 N σ17
def brd2 (N : Nat) (σ11 : Hp) : Option (Int32 × Hp) :=
  (gI N σ11 53 9 9).bind fun x12 =>
  ((if x12 = 0 then
   (m_X9_sign N σ11 53 44).bind fun r54 =>
  some r54
  else
   some σ11) : Option (Hp)).bind fun z13 => brd3 N z13
def brd1 (N : Nat) (r7 : Hp) : Option (Int32 × Hp) :=
  (gR N r7 53 9 10).bind fun x8 =>
  (gI N r7 53 9 9).bind fun x9 =>
  ((if x9 = 0 then
   (m_X9_number N r7 53 3 4 (-1)).bind fun r58 =>
  some (r58.1, r58.2)
  else
   some (0, r7)) : Option (Int32 × Hp)).bind fun z10 =>
  (sI 0 N z10.2 x8 432 z10.1).bind fun σ11 => brd2 N σ11
theorem board_eq : m_X9_board N σ 53 = (rv N σ 53 9).bind fun _ => (L_X9_board_6 N 53 432 fu σ 0).bind fun z4 => (pV N z4 53 9 7 (.int 0)).bind fun σ5 => (pV N σ5 53 9 9 (.int 0)).bind fun σ6 => (m_X9_sign N σ6 53 116).bind fun r7 => brd1 N r7 := rfl
/-- what board gives -/
def Bd (s : AS) (σ : Hp) (b : Nat → Nat → Int64) (r : Option (Int32 × Hp)) : Prop := ∃ f' a', r = some ((o_board s).1, MH σ f' a' b) ∧ RM f' a' (o_board s).2
theorem smaller_l {p q : Nat} (hp : p < 2 ^ 31) (hq : q < 2 ^ 31) (h : p ≤ q) : m_X9_smaller (nI p) (nI q) = some (nI p) := by
  unfold m_X9_smaller
  by_cases c : nI q ≤ nI p
  · rw [if_pos c]
    rw [nI_leI hq hp] at c
    obtain rfl : p = q := by omega
    rfl
  · rw [if_neg c]
theorem ABm_27 {a' : Nat → Nat → Int32} (ha : A27 a a') {k : Nat} (hk : k < 27) {x : AB} (h : ABm (a 58) k x) : ABm (a' 58) k x := ABm_eq h (fun t ht => ha.2 _ (by omega))
theorem bad5 (hN : 66 ≤ N) (h : RM f a s) {f1 : Nat → Int32} {a1 : Nat → Nat → Int32} (hf : F789 f f1) (ha : A27 a a1) (htl : s.tl ≤ 60) (hna : s.na ≤ 24) {w pl : Nat} (hw1 : 1 ≤ w) (hw3 : w ≤ 3) (h9 : f1 9 = nI w) (h8 : f1 8 = nI pl) (hpl : pl ≤ s.tl) (ho : pBoard s = .inl (w, pl)) : Bd s σ b (brd5 N (MH σ f1 a1 b)) := by
  unfold brd5
  have hl : L_X9_board_120 N 53 432 fu (MH σ f1 a1 b) = some (MH σ f1 a1 b) := by
    rw [show fu = 19999 + 1 from rfl, L_X9_board_120.eq_2, MH_f9 hN, h9]
    simp only [Option.bind_some]
    rw [if_neg (n123 hw1 hw3)]
  have h4 : f1 4 = nI s.tl := by rw [hf 4 (by decide) (by decide) (by decide)]; exact h.2.2.1.1
  rw [hl]
  simp only [Option.bind_some]
  rw [MH_f8 hN, MH_f4 hN, h8, h4]
  simp only [Option.bind_some]
  rw [smaller_l (by omega) (by omega) hpl]
  simp only [Option.bind_some]
  rw [MH_put (j := 4) hN (by omega)]
  simp only [Option.bind_some]
  rw [MH_f9 hN, upd_n (by decide), h9]
  simp only [Option.bind_some]
  rw [if_neg (n123 hw1 hw3), MH_put (j := 6) hN (by omega)]
  simp only [Option.bind_some]
  unfold Bd o_board
  rw [ho]
  refine ⟨_, a1, rfl, ?_⟩
  obtain ⟨h1, h2, h3, h4', h5, h6, h7, h8'⟩ := h
  refine ⟨?_, ?_, ⟨?_, ?_⟩, upd_s, ABm_27 ha (by omega) h5, ⟨?_, fun j hj => ?_⟩, ?_, ⟨?_, ?_⟩⟩
  · rw [ha.1 54 (by decide), ha.1 55 (by decide), ha.1 56 (by decide)]; exact h1
  · rw [upd_n (by decide), upd_n (by decide), hf 3 (by decide) (by decide) (by decide)]; exact h2
  · rw [upd_n (by decide), upd_s]; rfl
  · intro j hj; exact absurd hj (Nat.not_lt_zero j)
  · rw [upd_n (by decide), upd_n (by decide), hf 11 (by decide) (by decide) (by decide)]; exact h6.1
  · exact ABm_27 ha (by have : j < s.na := hj; omega) (h6.2 j hj)
  · intro k hk
    rw [ha.1 59 (by decide)]
    rcases h7 k hk with g | ⟨x, g1, g2, g3⟩
    · exact Or.inl g
    · exact Or.inr ⟨x, g1, g2, ABm_27 ha (by omega) g3⟩
  · rw [upd_n (by decide), upd_n (by decide), hf 23 (by decide) (by decide) (by decide)]; exact h8'.1
  · rw [ha.1 65 (by decide)]; exact h8'.2
section Bad
variable {f1 : Nat → Int32} {a1 : Nat → Nat → Int32} {w pl : Nat}
theorem bad4 (hN : 66 ≤ N) (h : RM f a s) (hf : F789 f f1) (ha : A27 a a1) (htl : s.tl ≤ 60) (hna : s.na ≤ 24) (hw1 : 1 ≤ w) (hw3 : w ≤ 3) (h9 : f1 9 = nI w) (h8 : f1 8 = nI pl) (hpl : pl ≤ s.tl) (ho : pBoard s = .inl (w, pl)) : Bd s σ b (brd4 N (MH σ f1 a1 b)) := by
  unfold brd4
  rw [MH_f9 hN, h9]
  simp only [Option.bind_some]
  rw [if_neg (n123 hw1 hw3)]
  exact bad5 hN h hf ha htl hna hw1 hw3 h9 h8 hpl ho
theorem bad3 (hN : 66 ≤ N) (h : RM f a s) (hf : F789 f f1) (ha : A27 a a1) (htl : s.tl ≤ 60) (hna : s.na ≤ 24) (hw1 : 1 ≤ w) (hw3 : w ≤ 3) (h9 : f1 9 = nI w) (h8 : f1 8 = nI pl) (hpl : pl ≤ s.tl) (ho : pBoard s = .inl (w, pl)) : Bd s σ b (brd3 N (MH σ f1 a1 b)) := by
  unfold brd3
  rw [MH_r10 hN, MH_f9 hN, h9]
  simp only [Option.bind_some]
  rw [if_neg (n123 hw1 hw3)]
  simp only [Option.bind_some]
  rw [show (432 : Int32) + 1 = nI 433 by decide +kernel, MH_s58 hN (by omega)]
  exact bad4 hN h hf (ha.tr (A27.up (by omega))) htl hna hw1 hw3 h9 h8 hpl ho
theorem bad2 (hN : 66 ≤ N) (h : RM f a s) (hf : F789 f f1) (ha : A27 a a1) (htl : s.tl ≤ 60) (hna : s.na ≤ 24) (hw1 : 1 ≤ w) (hw3 : w ≤ 3) (h9 : f1 9 = nI w) (h8 : f1 8 = nI pl) (hpl : pl ≤ s.tl) (ho : pBoard s = .inl (w, pl)) : Bd s σ b (brd2 N (MH σ f1 a1 b)) := by
  unfold brd2
  rw [MH_f9 hN, h9]
  simp only [Option.bind_some]
  rw [if_neg (n123 hw1 hw3)]
  exact bad3 hN h hf ha htl hna hw1 hw3 h9 h8 hpl ho
theorem bad1 (hN : 66 ≤ N) (h : RM f a s) (hf : F789 f f1) (ha : A27 a a1) (htl : s.tl ≤ 60) (hna : s.na ≤ 24) (hw1 : 1 ≤ w) (hw3 : w ≤ 3) (h9 : f1 9 = nI w) (h8 : f1 8 = nI pl) (hpl : pl ≤ s.tl) (ho : pBoard s = .inl (w, pl)) : Bd s σ b (brd1 N (MH σ f1 a1 b)) := by
  unfold brd1
  rw [MH_r10 hN, MH_f9 hN, h9]
  simp only [Option.bind_some]
  rw [if_neg (n123 hw1 hw3)]
  simp only [Option.bind_some]
  rw [show (432 : Int32) = nI 432 from rfl, MH_s58 hN (by omega)]
  exact bad2 hN h hf (ha.tr (A27.up (by omega))) htl hna hw1 hw3 h9 h8 hpl ho
theorem good5 (hN : 66 ≤ N) (h : RM f a s) (hf : F789 f f1) (ha : A27 a a1) (ht : TPm f a s) (hna : s.na ≤ 24) {P H p : Nat} (hP : P = 3 ∨ P = 4) (h9 : f1 9 = 0) (h7 : f1 7 = nI p) (hp : p ≤ s.tl) (hB : ABm (a1 58) 27 (nwB P H)) (ho : pBoard s = pDiscs s 7 (nwB P H) p) : Bd s σ b (brd5 N (MH σ f1 a1 b)) := by
  obtain ⟨f2, a2, g1, g2, g3, g4⟩ := board_loop (N := N) (b := b) (σ := σ) (H := H) (s := s) hN hP 7 0 fu p (nwB P H) f1 a1 (VP.new P H) (by omega) (by decide) ((ht.fr hf).a27 ha) h9 h7 hp (Or.inr rfl) hB
  have hf2 := hf.tr g2
  have ha2 := ha.tr g3
  have h60 := ht.2.1
  cases e : pDiscs s 7 (nwB P H) p with
  | inl x =>
    obtain ⟨w, pl⟩ := x
    rw [e] at g4 ho
    have hw : 1 ≤ w ∧ w ≤ 3 ∧ pl ≤ s.tl := by
      have : ∀ (r p : Nat) (bd : AB), p ≤ s.tl → pDiscs s r bd p = .inl (w, pl) → 1 ≤ w ∧ w ≤ 3 ∧ pl ≤ s.tl := by
        intro r
        induction r with
        | zero => intro p bd _ h; exact absurd h (by simp [pDiscs])
        | succ r ih =>
          intro p bd hp h
          rw [pDiscs] at h
          split at h
          · next e1 => obtain rfl := Sum.inl.inj h; exact pDisc_inl hp e1
          · next b' q e1 =>
            split at h
            · exact ih q b' (pDisc_inr e1).2.2.1 h
            · exact absurd h (by simp)
      exact this 7 p _ hp e
    have hl : brd5 N (MH σ f1 a1 b) = brd5 N (MH σ f2 a2 b) := by
      unfold brd5
      rw [g1]
      have hl : L_X9_board_120 N 53 432 fu (MH σ f2 a2 b) = some (MH σ f2 a2 b) := by
        rw [show fu = 19999 + 1 from rfl, L_X9_board_120.eq_2, MH_f9 hN, g4.1]
        simp only [Option.bind_some]
        rw [if_neg (n123 hw.1 hw.2.1)]
      rw [hl]
    rw [hl]
    exact bad5 hN h hf2 ha2 h60 hna hw.1 hw.2.1 g4.1 g4.2 hw.2.2 ho
  | inr bd =>
    rw [e] at g4 ho
    unfold brd5
    rw [g1]
    simp only [Option.bind_some]
    rw [MH_f8 hN, MH_f4 hN]
    simp only [Option.bind_some]
    have hs : ∃ r, m_X9_smaller (f2 8) (f2 4) = some r := by
      unfold m_X9_smaller
      split
      · exact ⟨_, rfl⟩
      · exact ⟨_, rfl⟩
    obtain ⟨r, hr⟩ := hs
    rw [hr]
    simp only [Option.bind_some]
    rw [MH_put (j := 4) hN (by omega)]
    simp only [Option.bind_some]
    rw [MH_f9 hN, upd_n (by decide), g4.1]
    simp only [Option.bind_some, if_true]
    rw [show (432 : Int32) = nI (16 * 27) from rfl, show m_X9_copies N (MH σ (upd f2 4 0) a2 b) 53 (nI (16 * 27)) 0 = _ from copies_ok (p := 27) (q := 0) hN (by omega) (by omega) (by omega)]
    simp only [Option.bind_some]
    rw [MH_put (j := 11) hN (by omega)]
    simp only [Option.bind_some]
    rw [MH_r10 hN]
    simp only [Option.bind_some]
    rw [show (2 : Int32) = nI 2 from rfl, MH_a58 hN (by omega)]
    simp only [Option.bind_some]
    have hc := cpW_in (q := 0) g4.2
    unfold Bd o_board
    rw [ho, vup_s, show cpW (a2 58) 27 0 2 = nI bd.D from hc.2.2.1]
    refine ⟨_, _, rfl, ?_⟩
    obtain ⟨h1, h2, h3, h4', h5, h6, h7', h8'⟩ := h
    refine ⟨?_, ?_, ⟨?_, ?_⟩, ?_, ?_, ⟨?_, fun j hj => ?_⟩, ?_, ⟨?_, ?_⟩⟩
    · rw [vup_n (by decide), vup_n (by decide), vup_n (by decide), ha2.1 54 (by decide), ha2.1 55 (by decide), ha2.1 56 (by decide)]; exact h1
    · rw [upd_n (by decide), upd_n (by decide), hf2 3 (by decide) (by decide) (by decide)]; exact h2
    · rw [upd_n (by decide), upd_s]; rfl
    · intro j hj; exact absurd hj (Nat.not_lt_zero j)
    · rw [upd_n (by decide), upd_n (by decide), hf2 6 (by decide) (by decide) (by decide)]; exact h4'
    · rw [vup_s]; exact hc
    · rw [upd_s]; rfl
    · exact absurd hj (Nat.not_lt_zero j)
    · intro k hk
      rw [vup_n (by decide), ha2.1 59 (by decide), vup_s]
      rcases h7' k hk with g | ⟨x, g1, g2, g3⟩
      · exact Or.inl g
      · exact Or.inr ⟨x, g1, g2, cpW_out (by omega) (ABm_27 ha2 (by omega) g3)⟩
    · rw [upd_n (by decide), upd_n (by decide), hf2 23 (by decide) (by decide) (by decide)]; exact h8'.1
    · rw [vup_n (by decide), ha2.1 65 (by decide)]; exact h8'.2
end Bad
theorem board_6 (hN : 66 ≤ N) : ∀ (r n j : Nat) (a : Nat → Nat → Int32), j + r = 16 → r < n → ∃ a', L_X9_board_6 N 53 432 n (MH σ f a b) (nI j) = some (MH σ f a' b) ∧ A27 a a' ∧ ∀ i, a' 58 i = if 432 + j ≤ i ∧ i < 448 then 0 else a 58 i := by
  intro r
  induction r with
  | zero =>
    intro n j a hj hn
    obtain ⟨n, rfl⟩ : ∃ k, n = k + 1 := ⟨n - 1, by omega⟩
    obtain rfl : j = 16 := by omega
    refine ⟨a, ?_, A27.refl, fun i => ?_⟩
    · rw [L_X9_board_6.eq_2, if_pos (by decide +kernel)]
    · rw [if_neg (by omega)]
  | succ r ih =>
    intro n j a hj hn
    obtain ⟨n, rfl⟩ : ∃ k, n = k + 1 := ⟨n - 1, by omega⟩
    obtain ⟨a', h1, h2, h3⟩ := ih n (j + 1) (va_up a 58 (upd (a 58) (432 + j) 0)) (by omega) (by omega)
    refine ⟨a', ?_, (A27.up (by omega)).tr h2, fun i => ?_⟩
    · rw [L_X9_board_6.eq_2, if_neg (by rw [show (16 : Int32) = nI 16 from rfl, nI_leI (by omega) (by omega)]; omega), MH_r10 hN]
      simp only [Option.bind_some]
      rw [show (432 : Int32) + nI j = nI (432 + j) from nI_add 432 j, MH_s58 hN (by omega)]
      simp only [Option.bind_some]
      rw [nI_1]
      exact h1
    · rw [h3, vup_s]
      by_cases c : i = 432 + j
      · subst c; rw [if_neg (by omega), upd_s, if_pos (by omega)]
      · rw [upd_n c]
        by_cases c2 : 432 + (j + 1) ≤ i ∧ i < 448
        · rw [if_pos c2, if_pos (by omega)]
        · rw [if_neg c2, if_neg (by omega)]
theorem mo_board (hN : 66 ≤ N) (h : RM f a s) (hv : VA m s) : MOp N f a b (fun σ => m_X9_board N σ 53) (o_board s).1 (o_board s).2 := by
  intro σ
  show ∃ f' a' b', m_X9_board N (MH σ f a b) 53 = _ ∧ _
  suffices hB : Bd s σ b (m_X9_board N (MH σ f a b) 53) by
    obtain ⟨f', a', e1, e2⟩ := hB
    exact ⟨f', a', b, e1, e2⟩
  have htl := hv.2.1.1
  have hna := hv.2.2.2.1.1
  have ht : TPm f a s := ⟨h.2.2.1.1, htl, fun j hj => ⟨hv.2.1.2 j hj, h.2.2.1.2 j hj⟩⟩
  rw [board_eq, MH_rv hN]
  obtain ⟨a0, z1, z2, z3⟩ := board_6 (N := N) (f := f) (b := b) (σ := σ) hN 16 fu 0 a (by omega) (by decide)
  rw [nI_0] at z1
  simp only [Option.bind_some]
  rw [z1]
  simp only [Option.bind_some]
  rw [MH_put (j := 7) hN (by omega)]
  simp only [Option.bind_some]
  rw [MH_put (j := 9) hN (by omega)]
  simp only [Option.bind_some]
  have fr0 : F789 f (upd (upd f 7 0) 9 0) := fun i x _ z => by rw [upd_n z, upd_n x]
  obtain ⟨f1, g1, g2, g3⟩ := sign_ok (N := N) (b := b) (σ := σ) (c := 116) (p := 0) hN ((ht.fr fr0).a27 z2) upd_s (by rw [upd_n (by decide), upd_s]; rfl) (by omega) (by omega)
  rw [show (116 : Int32) = nI 116 from rfl, g1]
  simp only [Option.bind_some]
  have fr1 := fr0.tr g2
  have hPL : ∀ e, pLaw s = .inl e → pBoard s = .inl e := fun e he => by unfold pBoard; rw [he]
  cases e1 : pSg s 116 0 with
  | inl x =>
    obtain ⟨w, pl⟩ := x
    rw [e1] at g3
    have hL : pLaw s = .inl (w, pl) := by unfold pLaw; rw [e1]
    obtain ⟨w1, w3, wp⟩ := pLaw_inl hL
    exact bad1 hN h fr1 z2 htl hna w1 w3 g3.1 g3.2 wp (hPL _ hL)
  | inr p1 =>
    rw [e1] at g3
    obtain ⟨_, _, q1⟩ := pSg_inr (by decide) e1
    unfold brd1
    rw [MH_r10 hN, MH_f9 hN, g3.1]
    simp only [Option.bind_some, if_true]
    obtain ⟨f2, x2, k1, k2, k3⟩ := num_ok (N := N) (b := b) (σ := σ) (lo := 3) (hi := 4) hN ((ht.fr fr1).a27 z2) g3.1 g3.2 q1 (by omega) (by omega)
    rw [show (3 : Int32) = nI 3 from rfl, show (4 : Int32) = nI 4 from rfl, k1]
    simp only [Option.bind_some]
    rw [show (432 : Int32) = nI 432 from rfl, MH_s58 hN (by omega)]
    simp only [Option.bind_some]
    have fr2 := fr1.tr k2
    have a2 := z2.tr (A27.up (a := a0) (k := 432) (v := x2) (by omega))
    cases e2 : pNum s p1 3 4 with
    | inl x =>
      obtain ⟨w, pl⟩ := x
      rw [e2] at k3
      have hL : pLaw s = .inl (w, pl) := by unfold pLaw; rw [e1]; show (match pNum s p1 3 4 with | .inl e => _ | .inr (P, p2) => _) = _; rw [e2]
      obtain ⟨w1, w3, wp⟩ := pLaw_inl hL
      exact bad2 hN h fr2 a2 htl hna w1 w3 k3.1 k3.2.1 wp (hPL _ hL)
    | inr x =>
      obtain ⟨P, p2⟩ := x
      rw [e2] at k3
      obtain ⟨kP1, kP2, _, _, q2⟩ := pNum_inr e2
      unfold brd2
      rw [MH_f9 hN, k3.1]
      simp only [Option.bind_some, if_true]
      obtain ⟨f3, l1, l2, l3⟩ := sign_ok (N := N) (b := b) (σ := σ) (c := 44) hN ((ht.fr fr2).a27 a2) k3.1 k3.2.1 (by omega) (by omega)
      rw [show (44 : Int32) = nI 44 from rfl, l1]
      simp only [Option.bind_some]
      have fr3 := fr2.tr l2
      cases e3 : pSg s 44 p2 with
      | inl x =>
        obtain ⟨w, pl⟩ := x
        rw [e3] at l3
        have hL : pLaw s = .inl (w, pl) := by unfold pLaw; simp only [e1, e2, e3]
        obtain ⟨w1, w3, wp⟩ := pLaw_inl hL
        exact bad3 hN h fr3 a2 htl hna w1 w3 l3.1 l3.2 wp (hPL _ hL)
      | inr p3 =>
        rw [e3] at l3
        obtain ⟨_, _, q3⟩ := pSg_inr (by decide) e3
        unfold brd3
        rw [MH_r10 hN, MH_f9 hN, l3.1]
        simp only [Option.bind_some, if_true]
        obtain ⟨f4, x4, r1, r2, r3⟩ := num_ok (N := N) (b := b) (σ := σ) (lo := 1) (hi := 6) hN ((ht.fr fr3).a27 a2) l3.1 l3.2 q3 (by omega) (by omega)
        rw [show (432 : Int32) + 1 = nI 433 by decide +kernel, show m_X9_number N (MH σ f3 (va_up a0 58 (upd (a0 58) 432 x2)) b) 53 1 6 (-1) = _ from r1]
        simp only [Option.bind_some]
        rw [MH_s58 hN (by omega), vup_s, vup_vup]
        simp only [Option.bind_some]
        have fr4 := fr3.tr r2
        have a4 : A27 a (va_up a0 58 (upd (upd (a0 58) 432 x2) 433 x4)) := z2.tr ⟨fun i hi => vup_n hi, fun i hi => by rw [vup_s, upd_n (by omega), upd_n (by omega)]⟩
        cases e4 : pNum s p3 1 6 with
        | inl x =>
          obtain ⟨w, pl⟩ := x
          rw [e4] at r3
          have hL : pLaw s = .inl (w, pl) := by unfold pLaw; simp only [e1, e2, e3, e4]
          obtain ⟨w1, w3, wp⟩ := pLaw_inl hL
          exact bad4 hN h fr4 a4 htl hna w1 w3 r3.1 r3.2.1 wp (hPL _ hL)
        | inr x =>
          obtain ⟨H, p4⟩ := x
          rw [e4] at r3
          obtain ⟨_, _, _, _, q4⟩ := pNum_inr e4
          unfold brd4
          rw [MH_f9 hN, r3.1]
          simp only [Option.bind_some, if_true]
          obtain ⟨f5, t1, t2, t3⟩ := sign_ok (N := N) (b := b) (σ := σ) (c := 59) hN ((ht.fr fr4).a27 a4) r3.1 r3.2.1 (by omega) (by omega)
          rw [show (59 : Int32) = nI 59 from rfl, t1]
          simp only [Option.bind_some]
          have fr5 := fr4.tr t2
          cases e5 : pSg s 59 p4 with
          | inl x =>
            obtain ⟨w, pl⟩ := x
            rw [e5] at t3
            have hL : pLaw s = .inl (w, pl) := by unfold pLaw; simp only [e1, e2, e3, e4, e5]
            obtain ⟨w1, w3, wp⟩ := pLaw_inl hL
            exact bad5 hN h fr5 a4 htl hna w1 w3 t3.1 t3.2 wp (hPL _ hL)
          | inr p5 =>
            rw [e5] at t3
            have hL : pLaw s = .inr (P, H, p5) := by unfold pLaw; simp only [e1, e2, e3, e4, e5]
            obtain ⟨hP, _, _, hp⟩ := pLaw_inr hL
            refine good5 hN h fr5 a4 ht hna hP t3.1 t3.2 hp ?_ (by unfold pBoard; rw [hL])
            rw [vup_s]
            have w0 : ∀ i, 434 ≤ i → i < 448 → upd (upd (a0 58) 432 x2) 433 x4 i = nI 0 := fun i hi hi2 => by
              rw [upd_n (by omega), upd_n (by omega), z3, if_pos (by omega)]; rfl
            refine ⟨?_, ?_, w0 434 (by omega) (by omega), w0 435 (by omega) (by omega), fun d hd => ⟨w0 _ (by omega) (by omega), w0 _ (by omega) (by omega)⟩⟩
            · rw [show 16 * 27 = 432 from rfl, upd_n (by omega), upd_s]; exact k3.2.2
            · rw [show 16 * 27 + 1 = 433 from rfl, upd_s]; exact r3.2.2
end MB2
