/-! the class: what calls say of the board -/
theorem isK_t : ∀ k, k < 6 → ∀ q, q < 6 → 1 ≤ k → (sA 0 (nI k)).bind (fun x8 => some ((x8 >>> (nI q &&& 31)) &&& 1)) = some (if isOf k q = true then 1 else 0) := by decide +kernel
section CP
variable {N m : Nat} {σ : Hp} {u : Nat → Nat → Int32} {R : CR} {s : AS}
theorem co_can (hN : 66 ≤ N) (h : RC u s) (hv : VA m s) (hm : m < 2 ^ 30) : m_X8_can N (CH σ u R) 0 = some (o_can s) := by
  have hB := h.2.2.2.2.1
  have hV := hv.2.2.1
  unfold m_X8_can o_can
  rw [C_rv hN, C_r2 hN]
  simp only [Option.bind_some]
  rw [isNone_ok (b4h hN) hB hV]
  simp only [Option.bind_some, ite10]
  by_cases c : s.bd.P = 0
  · rw [if_pos c, if_pos c]
  · rw [if_neg c, if_neg c, movesNow_ok (b4h hN) hB hV hm]; rfl
theorem co_kind (hN : 66 ≤ N) (h : RC u s) (hv : VA m s) (d : Int32) : m_X8_kind N (CH σ u R) 0 d = some (o_kind s d) := by
  have hB := h.2.2.2.2.1
  have hV := hv.2.2.1
  have h6 := hV.d4.2.1
  unfold m_X8_kind o_kind
  rw [C_rv hN, C_r2 hN]
  simp only [Option.bind_some]
  rw [hasDisc_ok (b4h hN) hB.2.1]
  simp only [Option.bind_some, ite10]
  by_cases c : isD s d
  · obtain ⟨d, hd, rfl⟩ := ofR (by omega) c
    rw [if_pos c, if_pos c, kindOf_ok (b4h hN) (hB.bl hV) hd, nt_nI (by omega)]; rfl
  · rw [if_neg c, if_neg c]
theorem co_as (hN : 66 ≤ N) (h : RC u s) (hv : VA m s) (d k : Int32) : COp N u R (fun τ => m_X8_as N τ 0 d k) (o_as s d k).1 (o_as s d k).2 := by
  intro σ
  show ∃ u', m_X8_as N (CH σ u R) 0 d k = _ ∧ _
  have hB := h.2.2.2.2.1
  have hV := hv.2.2.1
  have h6 := hV.d4.2.1
  unfold m_X8_as o_as
  rw [C_rv hN, C_r2 hN]
  simp only [Option.bind_some]
  rw [hasDisc_ok (b4h hN) hB.2.1]
  simp only [Option.bind_some, ite10]
  rw [rng2]
  by_cases c : isD s d
  · rw [if_pos c, if_pos c]
    by_cases c2 : 0 ≤ k ∧ k ≤ 5
    · obtain ⟨d, hd, rfl⟩ := ofR (by omega) c
      obtain ⟨k, hk, rfl⟩ := i5 c2
      have hL := hB.bl hV
      obtain ⟨k1, k2⟩ := hL.2.2.2.2.2.2.2 d hd
      rw [if_pos c2, if_pos c2, kindOf_ok (b4h hN) hL hd, nt_nI (by omega), nt_nI (by omega)]
      simp only [Option.bind_some]
      have ht := isK_t (s.bd.kd d) (by omega) k hk k1
      cases e : sA 0 (nI (s.bd.kd d)) with
      | none => rw [e] at ht; exact absurd ht (by simp)
      | some x =>
        rw [e] at ht
        have ht : (x >>> (nI k &&& 31)) &&& 1 = if isOf (s.bd.kd d) k = true then 1 else 0 := Option.some.inj ht
        simp only [Option.bind_some]
        rw [ht]
        cases e2 : isOf (s.bd.kd d) k with
        | true =>
          rw [if_neg (show ¬ (if true = true then (1 : Int32) else 0) = 0 by decide +kernel), well_ok hN, if_pos rfl]
          exact ⟨_, rfl, h.fnd 0⟩
        | false =>
          rw [if_pos (show (if false = true then (1 : Int32) else 0) = 0 from rfl), found_ok hN, if_neg (by decide)]
          exact ⟨_, rfl, h.fnd 3⟩
    · rw [if_neg c2, if_neg c2]; exact ⟨u, rfl, h⟩
  · rw [if_neg c, if_neg c]; exact ⟨u, rfl, h⟩
theorem co_trace (hN : 66 ≤ N) (h : RC u s) (hv : VA m s) (i : Int32) : m_X8_trace N (CH σ u R) 0 i = some (o_trace s i) := by
  obtain ⟨h8, h9⟩ := h.2.2.2.2.2.2.2
  have ht := hv.2.2.2.2.2.1
  unfold m_X8_trace o_trace m_X1_tracedAt
  rw [C_rv hN, C_r6 hN]
  simp only [Option.bind_some]
  rw [K_rv hN, K_i hN (by omega), h8, K_r0 hN]
  simp only [Option.bind_some]
  by_cases c : 0 ≤ i ∧ i < nI s.trl
  · obtain ⟨k, hk, rfl⟩ := ofR (by omega) c
    rw [if_neg (nI_nlt0 (by omega)), if_pos c.2, if_pos c, K_a hN (by omega), h9 k hk, nt_nI (by omega)]; rfl
  · rw [if_neg c]
    by_cases c1 : i < 0
    · rw [if_pos c1]; rfl
    · rw [if_neg c1, if_neg (fun e => c ⟨by rw [Int32.le_iff_toInt_le]; rw [Int32.lt_iff_toInt_lt] at c1; omega, e⟩)]; rfl
theorem top_is {b : AB} (hV : VB m b) {d : Nat} (hd : d < b.D) : isTop b d = true ↔ low (lset (stx b) (b.pg d) b.D) = d := by
  unfold isTop; exact beq_iff_eq
/-- bits of the moves from one peg -/
theorem dsR_eq {b : AB} (hV : VB m b) {d p : Nat} (hd : d < b.D) (hp : b.pg d = p) (hpP : p < b.P) (ht : isTop b d = true) : mms b.P b.H b.D b.kd (stx b) / 2 ^ (4 * p) % 16 = dsR b d true b.P := by
  obtain ⟨h4, h6, hP, _⟩ := hV.d4
  have hlow := (top_is hV hd).mp ht
  rw [hp] at hlow
  apply Nat.eq_of_testBit_eq
  intro i
  rw [show (16 : Nat) = 2 ^ 4 from rfl, Nat.testBit_mod_two_pow, Nat.testBit_div_two_pow]
  have hds : ∀ n, (dsR b d true n).testBit i = decide (i < n ∧ mvr b.H b.D b.kd (stx b) (b.pg d) i = d) := by
    intro n
    induction n with
    | zero => rw [dsR, Nat.zero_testBit]; simp
    | succ n ih =>
      rw [dsR, Nat.testBit_or, ih]
      by_cases c : mvr b.H b.D b.kd (stx b) (b.pg d) n = d
      · rw [if_pos ⟨rfl, c⟩, Nat.testBit_two_pow]
        apply Bool.eq_iff_iff.mpr
        rw [Bool.or_eq_true, decide_eq_true_iff, decide_eq_true_iff, decide_eq_true_iff]
        constructor
        · rintro (h | h)
          · exact ⟨by omega, h.2⟩
          · subst h; exact ⟨by omega, c⟩
        · rintro ⟨h1, h2⟩
          by_cases e : n = i
          · exact Or.inr e
          · exact Or.inl ⟨by omega, h2⟩
      · rw [if_neg (fun e => c e.2), Nat.zero_testBit, Bool.or_false]
        apply Bool.eq_iff_iff.mpr
        rw [decide_eq_true_iff, decide_eq_true_iff]
        constructor
        · rintro ⟨h1, h2⟩; exact ⟨by omega, h2⟩
        · rintro ⟨h1, h2⟩
          by_cases e : i = n
          · subst e; exact absurd h2 c
          · exact ⟨by omega, h2⟩
  rw [hds, hp]
  apply Bool.eq_iff_iff.mpr
  rw [Bool.and_eq_true, decide_eq_true_iff, decide_eq_true_iff]
  have hmv : mvr b.H b.D b.kd (stx b) p i < 6 ↔ mvr b.H b.D b.kd (stx b) p i = d := by
    unfold mvr
    split
    · exact ⟨fun e => absurd e (by omega), fun e => absurd e (by omega)⟩
    · next e1 =>
      rw [hlow]
      split
      · exact ⟨fun _ => rfl, fun _ => by omega⟩
      · exact ⟨fun e => absurd e (by omega), fun e => absurd e (by omega)⟩
  have hl := lgl_iff b.P b.H b.D b.kd (stx b) (i + 4 * p)
  constructor
  · rintro ⟨h1, h2⟩
    obtain ⟨_, _, l3, l4⟩ := hl.mp h2
    rw [show (i + 4 * p) / 4 = p by omega, show (i + 4 * p) % 4 = i by omega] at l4
    exact ⟨by omega, hmv.mp l4⟩
  · rintro ⟨h1, h2⟩
    refine ⟨by omega, hl.mpr ⟨by omega, by omega, by omega, ?_⟩⟩
    rw [show (i + 4 * p) / 4 = p by omega, show (i + 4 * p) % 4 = i by omega]
    exact hmv.mpr h2
theorem co_disc (hN : 66 ≤ N) (h : RC u s) (hv : VA m s) (hm : m < 2 ^ 30) (d w : Int32) : m_X8_disc N (CH σ u R) 0 d w = some (o_disc s d w) := by
  have hB := h.2.2.2.2.1
  have hV := hv.2.2.1
  obtain ⟨h4, h6, hP, _⟩ := hV.d4
  have ha := arn_lt hV
  unfold m_X8_disc o_disc
  rw [C_rv hN, C_r2 hN]
  simp only [Option.bind_some]
  rw [hasDisc_ok (b4h hN) hB.2.1]
  simp only [Option.bind_some, ite10]
  rw [rng2]
  by_cases c : isD s d
  · rw [if_pos c, if_pos c]
    by_cases c2 : 0 ≤ w ∧ w ≤ 2
    · obtain ⟨d, hd, rfl⟩ := ofR (by omega) c
      have hpd : s.bd.pg d < s.bd.P := by
        rcases hV with e | ⟨_, _, _, _, _, _, h7, _⟩
        · rw [e] at hd; exact absurd hd (by show ¬ d < 0; omega)
        · exact (h7 d hd).2.2
      have hne : lset (arn s.bd) (s.bd.pg d) s.bd.D ≠ 0 := lset_ne hd (arn_pg hV hd)
      rw [if_pos c2, if_pos c2, pegOf_ok (b4h hN) (show arn s.bd < 8192 by omega) hB.2.2.2.2.2 (by omega), arn_pg hV hd, nt_nI (by omega)]
      simp only [Option.bind_some]
      rw [topOf_ok (b4h hN) (show arn s.bd < 8192 by omega) hB.2.2.2.2.2 hB.2.1 h6 (h4 d) hne, lset_arn hV]
      simp only [Option.bind_some]
      have hll := low_le (lset (stx s.bd) (s.bd.pg d) s.bd.D)
      have htop : ((if nI (low (lset (stx s.bd) (s.bd.pg d) s.bd.D)) = nI d then some 1 else some 0) : Option Int32) = some (bI (isTop s.bd d)) := by
        by_cases e : low (lset (stx s.bd) (s.bd.pg d) s.bd.D) = d
        · rw [if_pos (by rw [e]), (top_is hV hd).mpr e]; rfl
        · have : isTop s.bd d = false := Bool.eq_false_iff.mpr (fun e' => e ((top_is hV hd).mp e'))
          rw [if_neg (fun e' => e ((nI_eq (by omega) (by omega)).mp e')), this]; rfl
      rw [htop]
      simp only [Option.bind_some]
      by_cases w0 : w = 0
      · rw [if_pos w0, if_pos w0]
      · rw [if_neg w0, if_neg w0]
        cases et : isTop s.bd d with
        | false =>
          by_cases w1 : w = 1
          · rw [if_pos w1, if_pos w1]; rfl
          · rw [if_neg w1, if_neg w1, if_pos (show bI false = 0 from rfl)]
            have : ∀ n, dsR s.bd d false n = 0 := by
              intro n
              induction n with
              | zero => rfl
              | succ n ih => rw [dsR, ih, if_neg (fun e => absurd e.1 (by decide))]; rfl
            rw [this]; rfl
        | true =>
          by_cases w1 : w = 1
          · rw [if_pos w1, if_pos w1, if_neg (show ¬ bI true = 0 by decide +kernel)]; rfl
          · rw [if_neg w1, if_neg w1, if_neg (show ¬ bI true = 0 by decide +kernel), movesNow_ok (b4h hN) hB hV hm]
            simp only [Option.bind_some]
            have hmm := mms_lt s.bd.P s.bd.H s.bd.D s.bd.kd (stx s.bd)
            have h4d := h4 d
            rw [show (4 : Int32) = nI 4 from rfl, pk_mul, ni_shr (by omega) (by omega), pk_andN (m := 15) (k := 4) (by have := Nat.div_le_self (mms s.bd.P s.bd.H s.bd.D s.bd.kd (stx s.bd)) (2 ^ (4 * s.bd.pg d)); omega) (by decide +kernel)]
            rw [show (2 : Nat) ^ 4 = 16 from rfl, dsR_eq hV hd rfl hpd et]
    · rw [if_neg c2, if_neg c2]
  · rw [if_neg c, if_neg c]
theorem co_peg (hN : 66 ≤ N) (h : RC u s) (hv : VA m s) (p w : Int32) : m_X8_peg N (CH σ u R) 0 p w = some (o_peg s p w) := by
  have hB := h.2.2.2.2.1
  have hV := hv.2.2.1
  obtain ⟨h4, h6, hP, _⟩ := hV.d4
  have ha := arn_lt hV
  unfold m_X8_peg o_peg
  rw [C_rv hN, C_r2 hN]
  simp only [Option.bind_some]
  rw [hasPeg_ok (b4h hN) hB.1]
  simp only [Option.bind_some, ite10]
  rw [rng2]
  by_cases c : isP s p
  · rw [if_pos c, if_pos c]
    by_cases c2 : 0 ≤ w ∧ w ≤ 2
    · obtain ⟨p, hp, rfl⟩ := ofR (by omega) c
      have h64 : lset (stx s.bd) p s.bd.D < 64 := lset_64 h6
      rw [if_pos c2, if_pos c2, lyingOn_ok (b4h hN) (show arn s.bd < 8192 by omega) hB.2.2.2.2.2 hB.2.1 h6 (by omega), lset_arn hV, nt_nI (by omega)]
      simp only [Option.bind_some]
      rw [bcnt_64 _ h64]
      simp only [Option.bind_some]
      by_cases w0 : w = 0
      · rw [if_pos w0, if_pos w0]
      · rw [if_neg w0, if_neg w0]
        by_cases w1 : w = 1
        · rw [if_pos w1, if_pos w1]
        · rw [if_neg w1, if_neg w1]
          by_cases c3 : lset (stx s.bd) p s.bd.D = 0
          · rw [if_pos c3, c3, if_pos (show nI 0 = 0 from rfl)]
          · rw [if_neg c3, if_neg (nI_ne0 (by omega) (by omega)), topOf_ok (b4h hN) (show arn s.bd < 8192 by omega) hB.2.2.2.2.2 hB.2.1 h6 (by omega) (by rw [lset_arn hV]; exact c3), lset_arn hV]; rfl
    · rw [if_neg c2, if_neg c2]
  · rw [if_neg c, if_neg c]
theorem there_loop (hN : 66 ≤ N) (h : RC u s) : ∀ (r n k : Nat), k + r = 8 → r < n → L_X8_rowsThere_4 N (CH σ u R) 0 n (nI (cntR s.lane k)) (nI k) = some (nI (cntR s.lane 8)) := by
  intro r
  induction r with
  | zero =>
    intro n k hk hn
    obtain ⟨n, rfl⟩ : ∃ k, n = k + 1 := ⟨n - 1, by omega⟩
    obtain rfl : k = 8 := by omega
    rw [L_X8_rowsThere_4.eq_2, if_pos (show (8 : Int32) ≤ nI 8 by decide +kernel)]
  | succ r ih =>
    intro n k hk hn
    obtain ⟨n, rfl⟩ : ∃ k, n = k + 1 := ⟨n - 1, by omega⟩
    have hrec := ih n (k + 1) (by omega) (by omega)
    rw [cntR] at hrec
    rw [L_X8_rowsThere_4.eq_2, if_neg (show ¬ (8 : Int32) ≤ nI k by rw [show (8 : Int32) = nI 8 from rfl, nI_leI (by omega) (by omega)]; omega), C_r0 hN]
    simp only [Option.bind_some]
    rw [C_rows hN (by omega)]
    simp only [Option.bind_some]
    rw [missing_ok hN h (by omega)]
    simp only [Option.bind_some, ite10]
    rw [nI_1, nI_1]
    by_cases c : s.lane k = -1
    · rw [if_pos c] at hrec ⊢; exact hrec
    · rw [if_neg c] at hrec ⊢; exact hrec
theorem co_count (hN : 66 ≤ N) (h : RC u s) (hv : VA m s) (w : Int32) : m_X8_count N (CH σ u R) 0 w = some (o_count s w) := by
  have hB := h.2.2.2.2.1
  have hV := hv.2.2.1
  obtain ⟨h4, h6, hP, _⟩ := hV.d4
  have ha := arn_lt hV
  unfold m_X8_count o_count m_X8_rowsThere
  have ht := there_loop (N := N) (σ := σ) (R := R) hN h 8 fu 0 (by omega) (by decide)
  rw [show cntR s.lane 0 = 0 from rfl, nI_0] at ht
  rw [C_rv hN]
  simp only [Option.bind_some]
  rw [ht, C_r2 hN, C_r4 hN, C_r1 hN]
  simp only [Option.bind_some]
  rw [(b4h hN).i0, (b4h hN).i1, (b4h hN).i2, (b4h hN).i3, (b4h hN).i5, A_i2 hN, T_i hN (by omega), hB.1, hB.2.1, hB.2.2.1, hB.2.2.2.1, hB.2.2.2.2.2, h.2.2.2.2.2.1.1, h.2.2.1.1]
  simp only [Option.bind_some]
  rw [cCode_ok (b4h hN) hB.2.1 h6 (by omega)]
  simp only [Option.bind_some]
  repeat' split
  all_goals rfl
theorem co_feed (hN : 66 ≤ N) (h : RC u s) (hv : VA m s) (x : Int32) : COp N u R (fun τ => m_X8_feed N τ 0 x) (o_feed s x).1 (o_feed s x).2 := by
  intro σ
  show ∃ u', m_X8_feed N (CH σ u R) 0 x = _ ∧ _
  have htl := hv.2.1.1
  have h3 := h.2.2.1
  unfold m_X8_feed o_feed
  rw [C_rv hN]
  simp only [Option.bind_some]
  rw [rng2]
  by_cases c : 0 ≤ x ∧ x ≤ 255
  · rw [if_pos c, if_pos c, C_r1 hN]
    simp only [Option.bind_some]
    unfold m_X7_take
    rw [T_rv hN, T_i hN (by omega), h3.1, T_r0 hN]
    simp only [Option.bind_some]
    obtain ⟨y, hy, rfl⟩ := ni_of (n := 255) (by omega) c.1 c.2
    by_cases c2 : s.tl = 60
    · rw [if_neg (show ¬ nI s.tl < 60 by rw [c2]; decide +kernel), if_pos c2]
      simp only [Option.bind_some, if_true]
      exact ⟨u, rfl, h⟩
    · rw [if_pos (show nI s.tl < 60 by rw [show (60 : Int32) = nI 60 from rfl, nI_ltI (by omega) (by omega)]; omega), if_neg c2, T_s hN (by omega)]
      simp only [Option.bind_some]
      rw [T_i hN (by omega), vup_n (show 2 ≠ 3 by decide), h3.1]
      simp only [Option.bind_some]
      rw [T_p hN (by omega), vup_n (show 2 ≠ 3 by decide), nI_1]
      simp only [Option.bind_some]
      rw [if_neg (show ¬ (1 : Int32) = 0 by decide +kernel), C_r1 hN]
      simp only [Option.bind_some]
      rw [T_i hN (by omega), vup_s, upd_s, nt_nI (by omega)]
      refine ⟨_, rfl, ?_⟩
      obtain ⟨h1, h2, h3, h4, h5, ⟨h6, nx, h61, h62, h63⟩, h7, h8⟩ := h
      refine ⟨fun k hk => ?_, by rw [vup_n (by omega), vup_n (by omega)]; exact h2, ⟨by rw [vup_s, upd_s]; rfl, fun j hj => ?_⟩, by rw [vup_n (by omega), vup_n (by omega)]; exact h4, by rw [vup_n (by omega), vup_n (by omega)]; exact h5, ⟨by rw [vup_n (by omega), vup_n (by omega)]; exact h6, nx, h61, by rw [vup_n (by omega), vup_n (by omega)]; exact h62, fun j hj => by rw [vup_n (by omega), vup_n (by omega)]; exact h63 j hj⟩, fun k hk => by rw [vup_n (by omega), vup_n (by omega)]; exact h7 k hk, ⟨by rw [vup_n (by omega), vup_n (by omega)]; exact h8.1, by rw [vup_n (by omega), vup_n (by omega)]; exact h8.2⟩⟩
      · rw [vup_n (by omega), vup_n (by omega), vup_n (by omega), vup_n (by omega)]; exact h1 k hk
      · have hj : j < s.tl + 1 := hj
        show va_up (α := Nat → Int32) _ 2 _ 3 j = nI (va_up s.tb s.tl y j)
        rw [vup_n (by omega), vup_s]
        by_cases e : j = s.tl
        · subst e; rw [upd_s, vup_s]
        · rw [upd_n e, vup_n e]; exact h3.2 j (by omega)
  · rw [if_neg c, if_neg c]; exact ⟨u, rfl, h⟩
end CP
