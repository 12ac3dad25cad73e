/-! the class: fits, drawn -/
def set3 (K d k : Nat) : Nat := (K &&& (2 ^ 32 - 1 - 7 * 8 ^ d)) ||| (k * 8 ^ d)
theorem pow8 (d : Nat) : 8 ^ d = 2 ^ (3 * d) := by rw [Nat.pow_mul]
theorem set3_tb {K d k i : Nat} (hK : K < 2 ^ 18) (hd : d < 6) (hk : k < 8) (hi : i < 32) : (set3 K d k).testBit i = if 3 * d ≤ i ∧ i < 3 * d + 3 then k.testBit (i - 3 * d) else K.testBit i := by
  have h8 : 8 ^ d ≤ 8 ^ 5 := Nat.pow_le_pow_right (by omega) (by omega)
  have h85 : 8 ^ 5 = 32768 := rfl
  have hk8 : ∀ j, 3 ≤ j → k.testBit j = false := fun j hj => tb_small (n := 3) (by omega) hj
  have h7 : ∀ j, (7 : Nat).testBit j = decide (j < 3) := fun j => by
    rw [show (7 : Nat) = 2 ^ 3 - 1 from rfl, Nat.testBit_two_pow_sub_one]
  unfold set3
  rw [Nat.testBit_or, Nat.testBit_and, tb_not (by omega) hi, pow8, Nat.testBit_mul_two_pow, Nat.testBit_mul_two_pow, h7]
  by_cases c : 3 * d ≤ i
  · by_cases c2 : i < 3 * d + 3
    · rw [if_pos ⟨c, c2⟩, decide_eq_true (show i - 3 * d < 3 by omega), decide_eq_true (show i ≥ 3 * d from c)]
      simp
    · rw [if_neg (fun e => c2 e.2), decide_eq_false (show ¬ i - 3 * d < 3 by omega), hk8 _ (by omega)]
      simp
  · rw [if_neg (fun e => c e.1), decide_eq_false (show ¬ i ≥ 3 * d from c)]
    simp
theorem set3_dig {K d k e : Nat} (hK : K < 2 ^ 18) (hd : d < 6) (hk : k < 8) (he : e < 6) : set3 K d k / 8 ^ e % 8 = if e = d then k else K / 8 ^ e % 8 := by
  apply Nat.eq_of_testBit_eq
  intro i
  rw [show (8 : Nat) = 2 ^ 3 from rfl, ← Nat.pow_mul, Nat.testBit_mod_two_pow, Nat.testBit_div_two_pow]
  by_cases c : i < 3
  · rw [decide_eq_true c, Bool.true_and, set3_tb hK hd hk (by omega)]
    by_cases c2 : e = d
    · subst c2
      rw [if_pos rfl, if_pos (by omega), show i + 3 * e - 3 * e = i by omega]
    · rw [if_neg c2, if_neg (by omega), Nat.testBit_mod_two_pow, Nat.testBit_div_two_pow, decide_eq_true c, Bool.true_and]
  · rw [decide_eq_false c, Bool.false_and]
    by_cases c2 : e = d
    · rw [if_pos c2]; exact (tb_small (n := 3) (by omega) (by omega)).symm
    · rw [if_neg c2, Nat.testBit_mod_two_pow, decide_eq_false c, Bool.false_and]
theorem set3_lt {K d k : Nat} (hK : K < 2 ^ 18) (hd : d < 6) (hk : k < 8) : set3 K d k < 2 ^ 18 := by
  have h8 : 8 ^ d ≤ 8 ^ 5 := Nat.pow_le_pow_right (by omega) (by omega)
  have h85 : 8 ^ 5 = 32768 := rfl
  unfold set3
  refine Nat.or_lt_two_pow (Nat.lt_of_le_of_lt Nat.and_le_left hK) ?_
  have : k * 8 ^ d ≤ 7 * 8 ^ d := Nat.mul_le_mul_right _ (by omega)
  omega
theorem set3_ints {K d k : Nat} (hK : K < 2 ^ 18) (hd : d < 6) (hk : k < 8) : (nI K &&& (((7 : Int32) <<< ((3 * nI d) &&& 31)) ^^^ (-1))) ||| ((nI k &&& 7) <<< ((3 * nI d) &&& 31)) = nI (set3 K d k) := by
  have h8 : 8 ^ d ≤ 8 ^ 5 := Nat.pow_le_pow_right (by omega) (by omega)
  have h85 : 8 ^ 5 = 32768 := rfl
  rw [show nI k &&& 7 = nI k by rw [pk_andN (m := 7) (k := 3) (by omega) (by decide +kernel)]; congr 1; exact Nat.mod_eq_of_lt (by omega), show (3 : Int32) = nI 3 from rfl, pk_mul, show (7 : Int32) = nI 7 from rfl, ni_shl (by omega) (by rw [← pow8]; omega), ni_shl (by omega) (by
    rw [← pow8]
    have : k * 8 ^ d ≤ 7 * 8 ^ d := Nat.mul_le_mul_right _ (by omega)
    omega), ← pow8, ni_not (by omega), ni_and, ni_or]
  rfl
theorem setd_mod {x d t : Nat} (hx : x < 8192) (hd : d < 6) (ht : t < 4) : setd x d t % 4096 = setd (x % 4096) d t ∧ setd x d t / 4096 = x / 4096 := by
  have hl := setd_lt (n := 13) (x := x) hx (by omega) (by omega) hd ht
  have e1 : setd x d t % 4096 = setd (x % 4096) d t := by
    apply Nat.eq_of_testBit_eq
    intro i
    rw [show (4096 : Nat) = 2 ^ 12 from rfl, Nat.testBit_mod_two_pow, setd_tb (by omega) hd ht, setd_tb (by omega) hd ht, Nat.testBit_mod_two_pow]
    by_cases c : i < 12
    · rw [decide_eq_true c, Bool.true_and, Bool.true_and]
    · rw [decide_eq_false c, Bool.false_and, Bool.false_and, if_neg (by omega)]
  refine ⟨e1, ?_⟩
  have h1 : (setd x d t).testBit 12 = x.testBit 12 := by rw [setd_tb (by omega) hd ht, if_neg (by omega)]
  rw [odd_tb hl, odd_tb hx] at h1
  have := decide_eq_decide.mp h1
  omega
section CF
variable {N m : Nat} {σ : Hp} {u : Nat → Nat → Int32} {R : CR} {s : AS}
/-- one thing is supposed -/
theorem suppose_ok (hN : 66 ≤ N) (h : RC u s) (hv : VA m s) (hm : m < 2 ^ 29) {d k w : Nat} (hd : d < s.bd.D) (hk : k ≤ 6) (hw : w < 3) (it : Nat → Int32) (n : Nat) : ∃ u' c, m_X8_suppose N (CH σ u R) 0 (nI d) (nI k) (nI w) = some (bI c, CH σ u' R) ∧ (∀ i, i ≠ 5 → u' i = u i) ∧ (c = false → ftk s d it n w k = false) ∧ (c = true → ∃ P H D kd x, Pl (u' 5) P H D kd x s.bd.M ∧ ftk s d it n w k = decide (jd P H D kd it n 0 x = -1000000)) := by
  have hB := h.2.2.2.2.1
  have hV := hv.2.2.1
  obtain ⟨h4, h6, hP, hH, hM, hkd⟩ := hV.d4
  have ha := arn_lt hV
  have hs := stx_lt hV
  have hp := Pl.of hB hV
  have hbl := hp.1
  obtain ⟨l1, l2, l3, _, _, _, ⟨K, k1, k2, k3⟩, lk⟩ := hbl
  have h46 : 4 ^ 5 = 1024 := rfl
  unfold m_X8_suppose
  rw [C_rv hN, C_r3 hN, C_r2 hN]
  simp only [Option.bind_some]
  rw [take_ok (b5h hN) (b4h hN) (by decide), CH_ub b5]
  simp only [Option.bind_some]
  have hb5 : BH N (CH σ (va_up u 5 (u 4)) R) 5 (u 4) := by
    have := CH_b (σ := σ) (u := va_up u 5 (u 4)) (R := R) hN b5
    rw [vup_s] at this
    exact this
  rcases (show w = 0 ∨ w = 1 ∨ w = 2 by omega) with rfl | rfl | rfl
  · rw [if_pos (show nI 0 = 0 from rfl), C_r3 hN]
    simp only [Option.bind_some]
    unfold m_X2_sortAs
    rw [hb5.rv, hb5.i4, k1]
    simp only [Option.bind_some]
    rw [set3_ints k2 (by omega) (by omega), hb5.put (by omega), CH_ub b5, vup_vup]
    simp only [Option.bind_some]
    rw [rng3]
    by_cases c : 1 ≤ k ∧ k ≤ 5
    · have c' : 1 ≤ nI k ∧ nI k ≤ 5 := ⟨by rw [show (1 : Int32) = nI 1 from rfl, nI_leI (by omega) (by omega)]; exact c.1, by rw [show (5 : Int32) = nI 5 from rfl, nI_leI (by omega) (by omega)]; exact c.2⟩
      rw [if_pos c']
      refine ⟨_, true, rfl, fun i hi => vup_n hi, fun e => absurd e (by decide), fun _ => ⟨s.bd.P, s.bd.H, s.bd.D, va_up s.bd.kd d k, stx s.bd, ?_, ?_⟩⟩
      · rw [vup_s]
        refine ⟨⟨by rw [upd_n (by decide)]; exact l1, by rw [upd_n (by decide)]; exact l2, by rw [upd_n (by decide)]; exact l3, hP, h6, hH, ⟨set3 K d k, upd_s, set3_lt k2 (by omega) (by omega), fun e he => ?_⟩, fun e he => ?_⟩, hs, by rw [upd_n (by decide)]; exact hp.2.2.1, by rw [upd_n (by decide)]; exact hp.2.2.2.1, hp.2.2.2.2⟩
        · rw [set3_dig k2 (by omega) (by omega) he]
          by_cases ce : e = d
          · subst ce; rw [if_pos rfl, vup_s]
          · rw [if_neg ce, vup_n ce, k3 e he]
        · by_cases ce : e = d
          · subst ce; rw [vup_s]; exact c
          · rw [vup_n ce]; exact lk e he
      · unfold ftk
        rw [if_pos rfl, decide_eq_true c, Bool.true_and]
    · have c' : ¬ (1 ≤ nI k ∧ nI k ≤ 5) := fun e => c ⟨by have := e.1; rw [show (1 : Int32) = nI 1 from rfl, nI_leI (by omega) (by omega)] at this; exact this, by have := e.2; rw [show (5 : Int32) = nI 5 from rfl, nI_leI (by omega) (by omega)] at this; exact this⟩
      rw [if_neg c']
      refine ⟨_, false, rfl, fun i hi => vup_n hi, fun _ => ?_, fun e => absurd e (by decide)⟩
      unfold ftk
      rw [if_pos rfl, decide_eq_false c, Bool.false_and]
  · rw [if_neg (show ¬ nI 1 = 0 by decide +kernel), if_pos (show nI 1 = 1 from rfl), C_r3 hN]
    simp only [Option.bind_some]
    unfold m_X2_layBy
    rw [hb5.rv, hb5.i5, hB.2.2.2.2.2]
    simp only [Option.bind_some]
    rw [setd_ints (t := k % 4) (by omega) (by omega) (Nat.mod_lt _ (by omega)) (pk_andN (m := 3) (k := 2) (by omega) (by decide +kernel)), hb5.put (by omega), CH_ub b5, vup_vup]
    simp only [Option.bind_some]
    rw [C_r2 hN]
    simp only [Option.bind_some]
    have hb4 : BH N (CH σ (va_up u 5 (upd (u 4) 5 (nI (setd (arn s.bd) d (k % 4))))) R) 4 (u 4) := by
      have := CH_b (σ := σ) (u := va_up u 5 (upd (u 4) 5 (nI (setd (arn s.bd) d (k % 4))))) (R := R) hN b4
      rw [vup_n (by decide)] at this
      exact this
    rw [hasPeg_ok hb4 l1]
    simp only [Option.bind_some]
    rw [zb01]
    simp only [Option.bind_some]
    by_cases c : k < s.bd.P
    · have hk4 : k % 4 = k := Nat.mod_eq_of_lt (by omega)
      rw [if_pos (show 0 ≤ nI k ∧ nI k < nI s.bd.P from ⟨nI_ge0 (by omega), by rw [nI_ltI (by omega) (by omega)]; exact c⟩)]
      refine ⟨_, true, rfl, fun i hi => vup_n hi, fun e => absurd e (by decide), fun _ => ⟨s.bd.P, s.bd.H, s.bd.D, s.bd.kd, setd (stx s.bd) d k, ?_, ?_⟩⟩
      · obtain ⟨e1, e2⟩ := setd_mod (t := k) hs (show d < 6 by omega) (show k < 4 by omega)
        rw [vup_s]
        refine ⟨hp.1.up ⟨upd_n (by decide), upd_n (by decide), upd_n (by decide), upd_n (by decide)⟩, setd_lt (n := 13) hs (by omega) (by omega) (by omega) (by omega), by rw [upd_s, hk4, e1, stx_mod hV], by rw [upd_n (by decide)]; exact hp.2.2.2.1, by rw [e2]; exact hp.2.2.2.2⟩
      · unfold ftk
        rw [if_neg (by omega), if_pos rfl, decide_eq_true c, Bool.true_and]
    · rw [if_neg (show ¬ (0 ≤ nI k ∧ nI k < nI s.bd.P) from fun e => by have := e.2; rw [nI_ltI (by omega) (by omega)] at this; exact c this)]
      refine ⟨_, false, rfl, fun i hi => vup_n hi, fun _ => ?_, fun e => absurd e (by decide)⟩
      unfold ftk
      rw [if_neg (by omega), if_pos rfl, decide_eq_false c, Bool.false_and]
  · rw [if_neg (show ¬ nI 2 = 0 by decide +kernel), if_neg (show ¬ nI 2 = 1 by decide +kernel), C_r3 hN]
    simp only [Option.bind_some]
    rw [hb5.put (by omega), CH_ub b5, vup_vup]
    simp only [Option.bind_some]
    by_cases c : 0 < k
    · rw [if_neg (show ¬ nI k < 1 by rw [show (1 : Int32) = nI 1 from rfl, nI_ltI (by omega) (by omega)]; omega)]
      refine ⟨_, true, rfl, fun i hi => vup_n hi, fun e => absurd e (by decide), fun _ => ⟨s.bd.P, k, s.bd.D, s.bd.kd, stx s.bd, ?_, ?_⟩⟩
      · rw [vup_s]
        exact ⟨⟨by rw [upd_n (by decide)]; exact l1, by rw [upd_n (by decide)]; exact l2, upd_s, hP, h6, hk, ⟨K, by rw [upd_n (by decide)]; exact k1, k2, k3⟩, lk⟩, hs, by rw [upd_n (by decide)]; exact hp.2.2.1, by rw [upd_n (by decide)]; exact hp.2.2.2.1, hp.2.2.2.2⟩
      · unfold ftk
        rw [if_neg (by omega), if_neg (by omega), decide_eq_true c, Bool.true_and]
    · rw [if_pos (show nI k < 1 by rw [show (1 : Int32) = nI 1 from rfl, nI_ltI (by omega) (by omega)]; omega)]
      refine ⟨_, false, rfl, fun i hi => vup_n hi, fun _ => ?_, fun e => absurd e (by decide)⟩
      unfold ftk
      rw [if_neg (by omega), if_neg (by omega), decide_eq_false c, Bool.false_and]
theorem cfits_loop (hN : 66 ≤ N) (hv : VA m s) (hm : m < 2 ^ 29) {d w q i0 n : Nat} (hd : d < s.bd.D) (hw : w < 3) (hq : q < 8) (hl : s.lane q ≠ -1) (hs : s.size q ≤ 40) (hi : i0 + n ≤ s.size q) : ∀ (r t k : Nat) (u : Nat → Nat → Int32), k + r = 7 → r < t → RC u s → ∃ u', L_X8_fits_78 N 0 (nI d) (nI i0) (nI n) (nI w) (35 + 2 * q) t (CH σ u R) (nI (ftR s d (fun k => s.items q (i0 + k)) n w k)) (nI k) = some (nI (ftR s d (fun k => s.items q (i0 + k)) n w 7), CH σ u' R) ∧ RC u' s := by
  intro r
  induction r with
  | zero =>
    intro t k u hk ht h
    obtain ⟨t, rfl⟩ : ∃ k, t = k + 1 := ⟨t - 1, by omega⟩
    obtain rfl : k = 7 := by omega
    exact ⟨u, by rw [L_X8_fits_78.eq_2, if_pos (show (6 : Int32) < nI 7 by decide +kernel)], h⟩
  | succ r ih =>
    intro t k u hk ht h
    obtain ⟨t, rfl⟩ : ∃ k, t = k + 1 := ⟨t - 1, by omega⟩
    have hMm := hv.2.2.1.d4.2.2.2.2.1
    rw [L_X8_fits_78.eq_2, if_neg (show ¬ (6 : Int32) < nI k by rw [show (6 : Int32) = nI 6 from rfl, nI_ltI (by omega) (by omega)]; omega)]
    obtain ⟨u1, c, g1, g2, g3, g4⟩ := suppose_ok (N := N) (σ := σ) (R := R) hN h hv hm hd (show k ≤ 6 by omega) hw (fun k => s.items q (i0 + k)) n
    have h1 : RC u1 s := h.tri g2
    rw [g1]
    simp only [Option.bind_some]
    rw [nI_1]
    have hR : ftR s d (fun k => s.items q (i0 + k)) n w (k + 1) = ftR s d (fun k => s.items q (i0 + k)) n w k ||| (if ftk s d (fun k => s.items q (i0 + k)) n w k = true then 2 ^ k else 0) := rfl
    cases c with
    | false =>
      rw [if_pos (show bI false = 0 from rfl)]
      obtain ⟨u2, k1, k2⟩ := ih t (k + 1) u1 (by omega) (by omega) h1
      rw [hR, g3 rfl, if_neg (by decide), Nat.or_zero] at k1
      exact ⟨u2, k1, k2⟩
    | true =>
      rw [if_neg (show ¬ bI true = 0 by decide +kernel), C_r3 hN]
      simp only [Option.bind_some]
      obtain ⟨P, H, D, kd, x, p1, p2⟩ := g4 rfl
      obtain ⟨u2, f1, f2⟩ := fw_ok (N := N) (σ := σ) (R := R) hN h1 hq hl hs hi p1 (by omega)
      rw [f1]
      simp only [Option.bind_some]
      obtain ⟨u3, k1, k2⟩ := ih t (k + 1) u2 (by omega) (by omega) (h1.tri f2)
      rw [hR, p2] at k1
      by_cases c2 : jd P H D kd (fun k => s.items q (i0 + k)) n 0 x = -1000000
      · rw [decide_eq_true c2, if_pos rfl] at k1
        rw [if_pos c2, show (1 : Int32) <<< (nI k &&& 31) = nI (2 ^ k) by rw [show (1 : Int32) = nI 1 from rfl, ni_shl (by omega) (by rw [Nat.one_mul]; exact Nat.pow_lt_pow_right (by omega) (by omega)), Nat.one_mul], ni_or, lt]
        exact ⟨u3, k1, k2⟩
      · rw [decide_eq_false c2, if_neg (by decide), Nat.or_zero] at k1
        rw [if_neg c2]
        exact ⟨u3, k1, k2⟩
theorem co_fits (hN : 66 ≤ N) (h : RC u s) (hv : VA m s) (hm : m < 2 ^ 29) (d r i n w : Int32) : COp N u R (fun τ => m_X8_fits N τ 0 d r i n w) (o_fits s d r i n w).1 (o_fits s d r i n w).2 := by
  intro σ
  show ∃ u', m_X8_fits N (CH σ u R) 0 d r i n w = _ ∧ _
  have hB := h.2.2.2.2.1
  have hV := hv.2.2.1
  have h6 := hV.d4.2.1
  unfold m_X8_fits o_fits
  rw [C_rv hN, rowAt_ok hN, C_r2 hN]
  simp only [Option.bind_some]
  rw [hasDisc_ok (b4h hN) hB.2.1]
  simp only [Option.bind_some, ite10]
  by_cases c1 : isD s d
  · rw [if_pos c1, if_pos c1]
    by_cases c2 : 0 ≤ r ∧ r ≤ 7
    · obtain ⟨q, hq, rfl⟩ := i7 c2
      rw [if_pos c2, if_pos c2, nt_nI (by omega)]
      unfold cQ
      simp only []
      rw [rng3]
      by_cases c3 : 1 ≤ n ∧ n ≤ 16
      · rw [if_pos c3, if_pos c3, rng2]
        by_cases c4 : 0 ≤ w ∧ w ≤ 2
        · rw [if_pos c4, if_pos c4, flaw_ok hN h hv hq]
          simp only [Option.bind_some]
          by_cases c5 : wrg s q i n = 0
          · rw [if_pos c5, if_pos c5]
            obtain ⟨w1, w2⟩ := wrg_0 c5
            obtain ⟨x, v, rfl, rfl, g1, g2, g3⟩ := wth_le w2 (hv.1 q hq).2
            obtain ⟨d, hd, rfl⟩ := ofR (by omega) c1
            obtain ⟨w, hw, rfl⟩ := i2 c4
            obtain ⟨u', k1, k2⟩ := cfits_loop (N := N) (σ := σ) (R := R) hN hv hm hd hw hq w1 (hv.1 q hq).2 g1 7 fu 0 u (by omega) (by decide) h
            rw [show ftR s d (fun k => s.items q (x + k)) v w 0 = 0 from rfl, nI_0] at k1
            rw [k1, nt_nI (by omega), nt_nI (by omega), nt_nI (by omega), nt_nI (by omega)]
            simp only [Option.bind_some]
            rw [well_ok hN]
            exact ⟨_, rfl, k2.fnd 0⟩
          · rw [if_neg c5, if_neg c5, found_ok hN]
            exact ⟨_, rfl, h.fnd _⟩
        · rw [if_neg c4, if_neg c4]; exact ⟨u, rfl, h⟩
      · rw [if_neg c3, if_neg c3]; exact ⟨u, rfl, h⟩
    · rw [if_neg c2, if_neg c2]; exact ⟨u, rfl, h⟩
  · rw [if_neg c1, if_neg c1]; exact ⟨u, rfl, h⟩
/-- n moves by draws -/
theorem ev_loop (hN : 66 ≤ N) {P H D : Nat} {kd : Nat → Nat} {nn : Nat} (hnn : nn ≤ 60) : ∀ (r t k x st o M : Nat) (u : Nat → Nat → Int32), k + r = nn → r < t → x < 2 ^ 31 → Pl (u 5) P H D kd st M → M + r < 2 ^ 31 → ∃ u' M', L_X2_spendEvening_9 N 5 (nI nn) t (CH σ u R) (lN x) (nI o) (nI k) = some (nI (evg P H D kd r x st o).2, CH σ u' R) ∧ (∀ i, i ≠ 5 → u' i = u i) ∧ Pl (u' 5) P H D kd (evg P H D kd r x st o).1 M' := by
  intro r
  induction r with
  | zero =>
    intro t k x st o M u hk ht hx hp hM
    obtain ⟨t, rfl⟩ : ∃ k, t = k + 1 := ⟨t - 1, by omega⟩
    exact ⟨u, M, by rw [L_X2_spendEvening_9.eq_2, if_pos (nI_le (by omega) (by omega))]; rfl, fun _ _ => rfl, hp⟩
  | succ r ih =>
    intro t k x st o M u hk ht hx hp hM
    obtain ⟨t, rfl⟩ : ∃ k, t = k + 1 := ⟨t - 1, by omega⟩
    have hx' := drw_lt x
    have hmm := mms_lt P H D kd st
    have hc := bcR_le (mms P H D kd st) 16
    rw [L_X2_spendEvening_9.eq_2, if_neg (nI_ge (by omega) (by omega)), drw_ok hx, lt, hp.moves (b5h hN) (by omega)]
    rw [Option.bind_some, bcnt_fam mms_fam, Option.bind_some, nI_1]
    rw [evg]
    by_cases c : cnt (mms P H D kd st) = 0
    · rw [if_pos c, c, if_pos (show nI 0 = 0 from rfl)]
      exact ih t (k + 1) _ st o M u (by omega) (by omega) (by omega) hp (by omega)
    · rw [if_neg c]
      have hcc : cnt (mms P H D kd st) ≤ 16 := hc
      have ha : drw x % cnt (mms P H D kd st) < cnt (mms P H D kd st) := Nat.mod_lt _ (by omega)
      obtain ⟨s1, s2⟩ := sel_ok ha
      rw [if_neg (show ¬ nI (cnt (mms P H D kd st)) = 0 from nI_ne0 (by omega) (by omega)), nI_l (by omega), nzJ, if_neg (show ¬ lN (cnt (mms P H D kd st)) = 0 by rw [show (0 : Int64) = lN 0 from rfl, pk_lEQ (by omega) (by omega)]; exact c)]
      rw [Option.bind_some, pk_lRem (by omega) (by omega) (by omega), lN_i, pick_ok hmm mms_fam ha, Option.bind_some]
      generalize hk' : sel (mms P H D kd st) (drw x % cnt (mms P H D kd st)) = q at s1 s2 ⊢
      have hl : lgl P H D kd st q = true := s2
      obtain ⟨k1, k2, k3, k4⟩ := (lgl_iff P H D kd st q).mp hl
      have h6 := hp.1.2.2.2.2.1
      obtain ⟨m1, m2⟩ := mvr_D h6 k4
      have hlow : mvr H D kd st (q / 4) (q % 4) = low (lset st (q / 4) D) := by
        unfold mvr at k4 ⊢
        split at k4
        · exact absurd k4 (by omega)
        · next e1 =>
          split at k4
          · next e2 => rw [if_neg e1, if_pos e2]
          · exact absurd k4 (by omega)
      have hst := hp.2.1
      rw [show nI q >>> ((2 : Int32) &&& 31) = nI (q / 4) by rw [show (2 : Int32) = nI 2 from rfl, ni_shr (by omega) (by omega)], topOf_ok (b5h hN) (show st % 4096 < 8192 by omega) hp.2.2.1 hp.1.2.1 h6 (by omega) (by rw [lset_mod h6]; exact lset_ne m1 m2), lset_mod h6, ← hlow, Option.bind_some]
      obtain ⟨g', c1, c2⟩ := hp.carry (b5h hN) hl
      have hz : ((if nI (mvr H D kd st (q / 4) (q % 4)) = 0 then some (nI o + 1) else some (nI o)) : Option Int32) = some (nI (o + if mvr H D kd st (q / 4) (q % 4) = 0 then 1 else 0)) := by
        by_cases e : mvr H D kd st (q / 4) (q % 4) = 0
        · rw [e, if_pos (show nI 0 = 0 from rfl), if_pos rfl, nI_1]
        · rw [if_neg (nI_ne0 (by omega) (by omega)), if_neg e, Nat.add_zero]
      rw [hz, Option.bind_some, c1, Option.bind_some, CH_ub b5]
      obtain ⟨u', M', e1, e2, e3⟩ := ih t (k + 1) (drw x) (bhd H D kd st q) (o + if mvr H D kd st (q / 4) (q % 4) = 0 then 1 else 0) (M + 1) (va_up u 5 g') (by omega) (by omega) (by omega) (by rw [vup_s]; exact c2) (by omega)
      exact ⟨u', M', e1, fun i hi => by rw [e2 i hi, vup_n hi], e3⟩
theorem cod_mod {x D : Nat} (h6 : D ≤ 6) : cod (x % 4096) D = cod x D := by
  have : ∀ r, r ≤ D → cdR (x % 4096) D r = cdR x D r := by
    intro r
    induction r with
    | zero => intro _; rfl
    | succ r ih => intro hr; rw [cdR, cdR, ih (by omega), pgx_mod (by omega)]
  exact this D (Nat.le_refl _)
theorem co_drawn (hN : 66 ≤ N) (h : RC u s) (hv : VA m s) (hm : m < 2 ^ 29) (n seed w : Int32) : COp N u R (fun τ => m_X8_drawn N τ 0 n seed w) (o_drawn s n seed w) s := by
  intro σ
  show ∃ u', m_X8_drawn N (CH σ u R) 0 n seed w = _ ∧ _
  have hB := h.2.2.2.2.1
  have hV := hv.2.2.1
  obtain ⟨h4, h6, hP, hH, hM, hkd⟩ := hV.d4
  unfold m_X8_drawn o_drawn
  rw [C_rv hN, C_r2 hN]
  simp only [Option.bind_some]
  rw [isNone_ok (b4h hN) hB hV]
  simp only [Option.bind_some, ite10]
  by_cases c0 : s.bd.P = 0
  · rw [if_pos c0, if_pos c0]; exact ⟨u, rfl, h⟩
  rw [if_neg c0, if_neg c0, rng3]
  by_cases c1 : 0 ≤ n ∧ n ≤ 60
  · rw [if_pos c1, if_pos c1, rng3]
    by_cases c2 : 1 ≤ seed ∧ seed ≤ 999999
    · rw [if_pos c2, if_pos c2, rng2]
      by_cases c3 : 0 ≤ w ∧ w ≤ 1
      · rw [if_pos c3, if_pos c3, C_r3 hN]
        simp only [Option.bind_some]
        obtain ⟨n, hn, rfl⟩ := ni_of (n := 60) (by omega) c1.1 (by rw [show nI 60 = 60 from rfl]; exact c1.2)
        obtain ⟨seed, hs, rfl⟩ := ni_of (n := 999999) (by omega) (show (0 : Int32) ≤ seed by have := c2.1; rw [Int32.le_iff_toInt_le] at this ⊢; exact Int.le_trans (by decide) this) (by rw [show nI 999999 = 999999 from rfl]; exact c2.2)
        rw [take_ok (b5h hN) (b4h hN) (by decide), CH_ub b5]
        simp only [Option.bind_some]
        rw [C_r3 hN]
        simp only [Option.bind_some]
        unfold m_X2_spendEvening
        rw [(b5h hN).rv, nI_l (by omega)]
        simp only [Option.bind_some]
        obtain ⟨u', M', e1, e2, e3⟩ := ev_loop (N := N) (σ := σ) (R := R) hN hn n fu 0 seed (stx s.bd) 0 s.bd.M (va_up u 5 (u 4)) (by omega) (by show _ < 20000; omega) (by omega) (by rw [vup_s]; exact Pl.of hB hV) (by omega)
        rw [nI_0] at e1
        rw [e1, nt_nI (by omega), nt_nI (by omega)]
        simp only [Option.bind_some]
        have hR : RC u' s := h.tri (fun i hi => by rw [e2 i hi, vup_n hi])
        by_cases c4 : w = 0
        · rw [if_pos c4, if_pos c4, C_r3 hN]
          simp only [Option.bind_some]
          rw [(b5h hN).i5, e3.2.2.1]
          simp only [Option.bind_some]
          rw [cCode_ok (b5h hN) e3.1.2.1 h6 (by omega), cod_mod h6]
          exact ⟨u', rfl, hR⟩
        · rw [if_neg c4, if_neg c4]; exact ⟨u', rfl, hR⟩
      · rw [if_neg c3, if_neg c3]; exact ⟨u, rfl, h⟩
    · rw [if_neg c2, if_neg c2]; exact ⟨u, rfl, h⟩
  · rw [if_neg c1, if_neg c1]; exact ⟨u, rfl, h⟩
end CF
