/-! the reference: fits -/
section MF
variable {N m : Nat} {f : Nat → Int32} {a : Nat → Nat → Int32} {b : Nat → Nat → Int64} {s : AS} {σ : Hp}
/-- what is told while one thing is tried -/
def tryF (f w : Nat → Int32) (x y z : Int32) : Nat → Int32 := upd (upd (upd (tolF f w) 20 x) 19 y) 21 z
theorem RM.try (h : RM f a s) (x y z : Int32) : RM (tryF f (a 58) x y z) a s := h.irr ⟨by unfold tryF; rw [upd_n (by decide), upd_n (by decide), upd_n (by decide), tolF_n (by decide)], by unfold tryF; rw [upd_n (by decide), upd_n (by decide), upd_n (by decide), tolF_n (by decide)], by unfold tryF; rw [upd_n (by decide), upd_n (by decide), upd_n (by decide), tolF_n (by decide)], by unfold tryF; rw [upd_n (by decide), upd_n (by decide), upd_n (by decide), tolF_n (by decide)], by unfold tryF; rw [upd_n (by decide), upd_n (by decide), upd_n (by decide), tolF_n (by decide)]⟩
theorem told_try {bd : AB} (hB : ABm (a 58) 0 bd) (hV : VB m bd) {x : Int32} {y H : Nat} {kd : Nat → Nat} (hH : H ≤ 6) (hk : ∀ d, d < bd.D → kd d ≤ 5 ∧ (if nI d = x then nI y else nI (bd.kd d)) = nI (kd d)) : Told (tryF f (a 58) x (nI y) (nI H)) (a 58) bd.P H bd.D kd := by
  obtain ⟨_, h6, hP, _, _, _⟩ := hV.d4
  obtain ⟨g1, g2, g3, g4, g5⟩ := hB
  have e21 : tryF f (a 58) x (nI y) (nI H) 21 = nI H := by unfold tryF; rw [upd_s]
  have e19 : tryF f (a 58) x (nI y) (nI H) 19 = nI y := by unfold tryF; rw [upd_n (by decide), upd_s]
  have e20 : tryF f (a 58) x (nI y) (nI H) 20 = x := by unfold tryF; rw [upd_n (by decide), upd_n (by decide), upd_s]
  refine ⟨g1, g3, hP, h6, hH, e21, fun d hd => ⟨(hk d hd).1, ?_⟩⟩
  rw [e19, e20]
  have := (g5 d (by omega)).1
  rw [show 16 * 0 + 4 + d = 4 + d by omega] at this
  rw [this]
  exact (hk d hd).2
theorem nI_m1 {d : Nat} (h : d < 6) : ¬ nI d = -1 := by
  have : ∀ d, d < 6 → ¬ nI d = -1 := by decide +kernel
  exact this d h
theorem k15 {k : Nat} (h : k < 7) : (1 ≤ nI k ∧ nI k ≤ 5) ↔ (1 ≤ k ∧ k ≤ 5) := by
  have : ∀ k, k < 7 → ((1 ≤ nI k ∧ nI k ≤ 5) ↔ (1 ≤ k ∧ k ≤ 5)) := by decide +kernel
  exact this k h
theorem fits_loop (hN : 66 ≤ N) (h0 : RM f a s) (hv : VA m s) (hm : m < 2 ^ 30) {d row i n w : Nat} (hd : d < s.bd.D) (hr : row < 8) (hi : i + n ≤ 40) (hn : n ≤ 16) (hw : w < 3) : ∀ (r t k : Nat) (f : Nat → Int32), RM f a s → k + r = 7 → r < t → ∃ f', L_X9_fits_72 N 53 (nI d) (nI row) (nI i) (nI n) (nI w) t (MH σ f a b) (nI (ftR s d (fun u => s.items row (i + u)) n w k)) (nI k) = some (nI (ftR s d (fun u => s.items row (i + u)) n w 7), MH σ f' a b) ∧ RM f' a s := by
  have hV := hv.2.2.1
  have hB := h0.2.2.2.2.1
  obtain ⟨h4, h6, hP4, hH6, _, hk5⟩ := hV.d4
  intro r
  induction r with
  | zero =>
    intro t k f h hk ht
    obtain ⟨t, rfl⟩ : ∃ q, t = q + 1 := ⟨t - 1, by omega⟩
    obtain rfl : k = 7 := by omega
    rw [L_X9_fits_72.eq_2, if_pos (by decide +kernel)]
    exact ⟨f, rfl, h⟩
  | succ r ih =>
    intro t k f h hk ht
    obtain ⟨t, rfl⟩ : ∃ q, t = q + 1 := ⟨t - 1, by omega⟩
    have hk7 : k < 7 := by omega
    have hlt := ftR_lt s d (fun u => s.items row (i + u)) n w k
    have hfu : ftR s d (fun u => s.items row (i + u)) n w (k + 1) = ftR s d (fun u => s.items row (i + u)) n w k ||| (if ftk s d (fun u => s.items row (i + u)) n w k = true then 2 ^ k else 0) := rfl
    have hx := stx_lt hV
    rw [L_X9_fits_72.eq_2, if_neg (show ¬ (6 : Int32) < nI k by rw [show (6 : Int32) = nI 6 from rfl, nI_ltI (by omega) (by omega)]; omega), asTold_ok hN]
    simp only [Option.bind_some]
    -- the end of a step: the bit is set, or not
    have fin : ∀ (f' : Nat → Int32) (B : Bool), RM f' a s → ftk s d (fun u => s.items row (i + u)) n w k = B → ∃ f'', (if B = true then L_X9_fits_72 N 53 (nI d) (nI row) (nI i) (nI n) (nI w) t (MH σ f' a b) (nI (ftR s d (fun u => s.items row (i + u)) n w k) ||| ((1 : Int32) <<< (nI k &&& 31))) (nI k + 1) else L_X9_fits_72 N 53 (nI d) (nI row) (nI i) (nI n) (nI w) t (MH σ f' a b) (nI (ftR s d (fun u => s.items row (i + u)) n w k) ||| 0) (nI k + 1)) = some (nI (ftR s d (fun u => s.items row (i + u)) n w 7), MH σ f'' a b) ∧ RM f'' a s := by
      intro f' B hR hB'
      have := ih t (k + 1) f' hR (by omega) (by omega)
      rw [hfu, hB'] at this
      rw [nI_1]
      cases B with
      | true =>
        rw [if_pos rfl] at this ⊢
        rw [show (1 : Int32) = nI 1 from rfl, ni_shl (by omega) (by rw [Nat.one_mul]; exact Nat.pow_lt_pow_right (by omega) (by omega)), ni_or, Nat.one_mul]
        exact this
      | false =>
        rw [if_neg (by decide)] at this ⊢
        rw [show (0 : Int32) = nI 0 from rfl, ni_or]
        exact this
    -- a judged book
    have jdg : ∀ {f' : Nat → Int32} {H : Nat} {kd : Nat → Nat} {x : Nat}, RM f' a s → Told f' (a 58) s.bd.P H s.bd.D kd → x < 8192 → ftk s d (fun u => s.items row (i + u)) n w k = decide (jd s.bd.P H s.bd.D kd (fun u => s.items row (i + u)) n 0 x = -1000000) → ∃ f'', ((m_X9_judged N (MH σ f' a b) 53 (nI row) (nI i) (nI n) (nI x)).bind fun r21 => if 0 ≤ r21 then L_X9_fits_72 N 53 (nI d) (nI row) (nI i) (nI n) (nI w) t (MH σ f' a b) (nI (ftR s d (fun u => s.items row (i + u)) n w k) ||| 0) (nI k + 1) else lt (nI (ftR s d (fun u => s.items row (i + u)) n w k) ||| ((1 : Int32) <<< (nI k &&& 31))) fun y23 => L_X9_fits_72 N 53 (nI d) (nI row) (nI i) (nI n) (nI w) t (MH σ f' a b) y23 (nI k + 1)) = some (nI (ftR s d (fun u => s.items row (i + u)) n w 7), MH σ f'' a b) ∧ RM f'' a s := by
      intro f' H kd x hR hT hx hft
      rw [judged_ok hN hR hv hT hr hi hx]
      simp only [Option.bind_some]
      obtain ⟨f'', g1, g2⟩ := fin f' _ hR hft
      refine ⟨f'', ?_, g2⟩
      rw [← g1]
      by_cases c : jd s.bd.P H s.bd.D kd (fun u => s.items row (i + u)) n 0 x = -1000000
      · rw [if_neg (show ¬ (0 : Int32) ≤ jd s.bd.P H s.bd.D kd (fun u => s.items row (i + u)) n 0 x by rw [jd_nn (by omega)]; exact fun g => g c), if_pos (decide_eq_true c)]
        rfl
      · rw [if_pos (show (0 : Int32) ≤ jd s.bd.P H s.bd.D kd (fun u => s.items row (i + u)) n 0 x by rw [jd_nn (by omega)]; exact c), if_neg (by simp [c])]
    have hw3 : w = 0 ∨ w = 1 ∨ w = 2 := by omega
    rcases hw3 with rfl | rfl | rfl
    · rw [if_pos (show nI 0 = (0 : Int32) from rfl)]
      simp only [Option.bind_some]
      rw [MH_put (j := 20) hN (by omega)]
      simp only [Option.bind_some]
      rw [MH_put (j := 19) hN (by omega)]
      simp only [MH_rv hN, MH_f3 hN, MH_f4 hN, MH_f6 hN, MH_f7 hN, MH_f8 hN, MH_f9 hN, MH_f11 hN, MH_f16 hN, MH_f19 hN, MH_f20 hN, MH_f21 hN, MH_f23 hN, MH_r0 hN, MH_r1 hN, MH_r2 hN, MH_r5 hN, MH_r10 hN, MH_r12 hN, MH_r13 hN, MH_r14 hN, MH_r15 hN, MH_r17 hN, MH_r18 hN, MH_r22 hN, Option.bind_some]
      rw [if_neg (show ¬ nI 0 = (2 : Int32) by decide +kernel), show ∀ g : Nat → Int32, aI 0 N (MH σ g a b) 58 1 = some (a 58 1) from fun g => MH_a58 (k := 1) hN (by omega)]
      simp only [Option.bind_some]
      rw [MH_put (j := 21) hN (by omega)]
      simp only [Option.bind_some]
      rw [if_pos (show nI 0 = (0 : Int32) from rfl), show (1 : Int64) = (1 : Int32).toInt64 by decide +kernel, show (5 : Int64) = (5 : Int32).toInt64 by decide +kernel, i64_in]
      simp only [Option.bind_some]
      rw [if_neg (show ¬ nI 0 = (1 : Int32) by decide +kernel), state_ok hN hB hV hm]
      simp only [Option.bind_some, ite10]
      rw [show a 58 1 = nI s.bd.H from hB.2.1]
      by_cases c : 1 ≤ k ∧ k ≤ 5
      · rw [if_pos ((k15 hk7).mpr c)]
        refine jdg (f' := tryF f (a 58) (nI d) (nI k) (nI s.bd.H)) (H := s.bd.H) (kd := va_up s.bd.kd d k) (h.try _ _ _) (told_try hB hV hH6 (fun e he => ?_)) hx ?_
        · by_cases c2 : e = d
          · subst c2; rw [vup_s, if_pos rfl]; exact ⟨c.2, rfl⟩
          · rw [vup_n c2, if_neg (ni_ne (by omega) (by omega) c2)]; exact ⟨hk5 e, rfl⟩
        · unfold ftk
          rw [if_pos rfl, decide_eq_true c, Bool.true_and]
      · rw [if_neg (fun g => c ((k15 hk7).mp g))]
        obtain ⟨f'', g1, g2⟩ := fin (tryF f (a 58) (nI d) (nI k) (nI s.bd.H)) false (h.try _ _ _) (by unfold ftk; rw [if_pos rfl, decide_eq_false c, Bool.false_and])
        rw [if_neg (by decide)] at g1
        exact ⟨f'', g1, g2⟩
    · rw [if_neg (show ¬ nI 1 = (0 : Int32) by decide +kernel)]
      simp only [Option.bind_some]
      rw [MH_put (j := 20) hN (by omega)]
      simp only [Option.bind_some]
      rw [MH_put (j := 19) hN (by omega)]
      simp only [MH_rv hN, MH_f3 hN, MH_f4 hN, MH_f6 hN, MH_f7 hN, MH_f8 hN, MH_f9 hN, MH_f11 hN, MH_f16 hN, MH_f19 hN, MH_f20 hN, MH_f21 hN, MH_f23 hN, MH_r0 hN, MH_r1 hN, MH_r2 hN, MH_r5 hN, MH_r10 hN, MH_r12 hN, MH_r13 hN, MH_r14 hN, MH_r15 hN, MH_r17 hN, MH_r18 hN, MH_r22 hN, Option.bind_some]
      rw [if_neg (show ¬ nI 1 = (2 : Int32) by decide +kernel), show ∀ g : Nat → Int32, aI 0 N (MH σ g a b) 58 1 = some (a 58 1) from fun g => MH_a58 (k := 1) hN (by omega)]
      simp only [Option.bind_some]
      rw [MH_put (j := 21) hN (by omega)]
      simp only [Option.bind_some]
      rw [if_neg (show ¬ nI 1 = (0 : Int32) by decide +kernel), if_pos (show nI 1 = (1 : Int32) from rfl), show a 58 1 = nI s.bd.H from hB.2.1]
      have hR := h.try (-1) (nI k) (nI s.bd.H)
      rw [show upd (upd (upd (tolF f (a 58)) 20 (-1)) 19 (nI k)) 21 (nI s.bd.H) = tryF f (a 58) (-1) (nI k) (nI s.bd.H) from rfl, isPeg_ok hN hR hv]
      simp only [Option.bind_some]
      rw [if_pos (show nI 1 = (1 : Int32) from rfl), state_ok hN hB hV hm]
      simp only [Option.bind_some, ite10, pgc (show s.bd.P < 2 ^ 31 by omega) (show k < 2 ^ 31 by omega)]
      by_cases c : k < s.bd.P
      · rw [if_pos c]
        simp only [Option.bind_some]
        rw [if_pos c]
        have e : ((nI (stx s.bd) &&& (((3 : Int32) <<< (((2 : Int32) * nI d) &&& 31)) ^^^ (-1))) ||| (nI k <<< (((2 : Int32) * nI d) &&& 31))) = nI (setd (stx s.bd) d k) := by
          have hp : 4 ^ d ≤ 1024 := Nat.le_trans (Nat.pow_le_pow_right (by omega) (show d ≤ 5 by omega)) (by decide)
          have h3 : 3 * 2 ^ (2 * d) < 2 ^ 32 := by rw [← pow4]; omega
          have h4 : k * 2 ^ (2 * d) < 2 ^ 32 := by
            rw [← pow4]
            have : k * 4 ^ d ≤ 3 * 1024 := Nat.mul_le_mul (by omega) hp
            omega
          rw [show (2 : Int32) = nI 2 from rfl, pk_mul, show (3 : Int32) = nI 3 from rfl, ni_shl (by omega) h3, ni_not h3, ni_and, ni_shl (by omega) h4, ni_or]
          unfold setd
          rw [pow4]
        rw [e]
        refine jdg hR (told_try hB hV hH6 (fun e he => ⟨hk5 e, by rw [if_neg (nI_m1 (by omega))]⟩)) (setd_lt (n := 13) hx (by omega) (by omega) (by omega) (by omega)) ?_
        unfold ftk
        rw [if_neg (by decide), if_pos rfl, decide_eq_true c, Bool.true_and]
      · rw [if_neg c]
        simp only [Option.bind_some]
        rw [if_neg c]
        obtain ⟨f'', g1, g2⟩ := fin _ false hR (by unfold ftk; rw [if_neg (by decide), if_pos rfl, decide_eq_false c, Bool.false_and])
        rw [if_neg (by decide)] at g1
        exact ⟨f'', g1, g2⟩
    · rw [if_neg (show ¬ nI 2 = (0 : Int32) by decide +kernel)]
      simp only [Option.bind_some]
      rw [MH_put (j := 20) hN (by omega)]
      simp only [Option.bind_some]
      rw [MH_put (j := 19) hN (by omega)]
      simp only [MH_rv hN, MH_f3 hN, MH_f4 hN, MH_f6 hN, MH_f7 hN, MH_f8 hN, MH_f9 hN, MH_f11 hN, MH_f16 hN, MH_f19 hN, MH_f20 hN, MH_f21 hN, MH_f23 hN, MH_r0 hN, MH_r1 hN, MH_r2 hN, MH_r5 hN, MH_r10 hN, MH_r12 hN, MH_r13 hN, MH_r14 hN, MH_r15 hN, MH_r17 hN, MH_r18 hN, MH_r22 hN, Option.bind_some]
      rw [if_pos (show nI 2 = (2 : Int32) from rfl)]
      simp only [Option.bind_some]
      rw [MH_put (j := 21) hN (by omega)]
      simp only [Option.bind_some]
      rw [if_neg (show ¬ nI 2 = (0 : Int32) by decide +kernel), if_neg (show ¬ nI 2 = (1 : Int32) by decide +kernel)]
      have hR := h.try (-1) (nI k) (nI k)
      rw [show upd (upd (upd (tolF f (a 58)) 20 (-1)) 19 (nI k)) 21 (nI k) = tryF f (a 58) (-1) (nI k) (nI k) from rfl]
      by_cases c : 0 < k
      · rw [if_neg (show ¬ nI k ≤ 0 from nI_nle c (by omega))]
        simp only [Option.bind_some]
        rw [if_neg (show ¬ nI 2 = (1 : Int32) by decide +kernel), state_ok hN hB hV hm]
        simp only [Option.bind_some]
        rw [if_neg (show ¬ (1 : Int32) = 0 by decide +kernel)]
        refine jdg hR (told_try hB hV (by omega) (fun e he => ⟨hk5 e, by rw [if_neg (nI_m1 (by omega))]⟩)) hx ?_
        unfold ftk
        rw [if_neg (by decide), if_neg (by decide), decide_eq_true c, Bool.true_and]
      · obtain rfl : k = 0 := by omega
        rw [if_pos (show nI 0 ≤ 0 by decide +kernel)]
        simp only [Option.bind_some]
        rw [if_neg (show ¬ nI 2 = (1 : Int32) by decide +kernel), state_ok hN hB hV hm]
        simp only [Option.bind_some]
        rw [if_pos trivial]
        obtain ⟨f'', g1, g2⟩ := fin _ false hR (by unfold ftk; rw [if_neg (by decide), if_neg (by decide), decide_eq_false c, Bool.false_and])
        rw [if_neg (by decide)] at g1
        exact ⟨f'', g1, g2⟩
theorem mo_fits (hN : 66 ≤ N) (h : RM f a s) (hv : VA m s) (hm : m < 2 ^ 30) (d r i n w : Int32) : MOp N f a b (fun σ => m_X9_fits N σ 53 d r i n w) (o_fits s d r i n w).1 (o_fits s d r i n w).2 := by
  intro σ
  show ∃ f' a' b', m_X9_fits N (MH σ f a b) 53 d r i n w = _ ∧ _
  have hV := hv.2.2.1
  obtain ⟨_, h6, _⟩ := hV.d4
  unfold m_X9_fits o_fits
  simp only [MH_rv hN, MH_f3 hN, MH_f4 hN, MH_f6 hN, MH_f7 hN, MH_f8 hN, MH_f9 hN, MH_f11 hN, MH_f16 hN, MH_f19 hN, MH_f20 hN, MH_f21 hN, MH_f23 hN, MH_r0 hN, MH_r1 hN, MH_r2 hN, MH_r5 hN, MH_r10 hN, MH_r12 hN, MH_r13 hN, MH_r14 hN, MH_r15 hN, MH_r17 hN, MH_r18 hN, MH_r22 hN, Option.bind_some, isDisc_ok hN h hv, isRow_ok, ite10]
  by_cases c1 : isD s d
  · rw [if_pos c1, if_pos c1]
    by_cases c2 : 0 ≤ r ∧ r ≤ 7
    · rw [if_pos c2, if_pos c2, show (1 : Int64) = (1 : Int32).toInt64 by decide +kernel, show (16 : Int64) = (16 : Int32).toInt64 by decide +kernel, i64_in]
      simp only [Option.bind_some, ite10]
      by_cases c3 : 1 ≤ n ∧ n ≤ 16
      · rw [if_pos c3, if_pos c3, show (0 : Int64) = (0 : Int32).toInt64 by decide +kernel, show (2 : Int64) = (2 : Int32).toInt64 by decide +kernel, i64_in]
        simp only [Option.bind_some, ite10]
        by_cases c4 : 0 ≤ w ∧ w ≤ 2
        · obtain ⟨u, hu, rfl⟩ := lt_of (by omega) c1
          obtain ⟨k, hk, rfl⟩ := i7 c2
          rw [if_pos c4, if_pos c4, wrongOf_ok hN h hv hk, nt_nI (by omega), nt_nI (by omega)]
          simp only [Option.bind_some]
          by_cases c5 : wrg s k i n = 0
          · have hw : wthB s k i n = true := by
              unfold wrg at c5
              by_cases c6 : s.lane k = -1
              · rw [if_pos c6] at c5; exact absurd c5 (by decide +kernel)
              · rw [if_neg c6] at c5
                cases h5 : wthB s k i n with
                | true => rfl
                | false => rw [h5] at c5; exact absurd c5 (by decide +kernel)
            rw [if_pos c5, if_pos c5]
            obtain ⟨i', n', rfl, rfl, g1, g2, g3⟩ := wth_le hw (hv.1 k hk).2
            obtain ⟨w', hw', rfl⟩ := i2 c4
            have hs := (hv.1 k hk).2
            have hn16 : n' ≤ 16 := by
              have := c3.2
              rw [show (16 : Int32) = nI 16 from rfl, nI_leI (by omega) (by omega)] at this
              exact this
            rw [nt_nI (by omega), nt_nI (by omega), nt_nI (by omega)]
            obtain ⟨f', e1, e2⟩ := fits_loop (N := N) (σ := σ) (b := b) hN h hv hm hu hk (i := i') (n := n') (by omega) hn16 hw' 7 fu 0 f h (by omega) (by decide)
            rw [show ftR s u (fun k_1 => s.items k (i' + k_1)) n' w' 0 = 0 from rfl, nI_0] at e1
            rw [e1]
            simp only [Option.bind_some]
            rw [asTold_ok hN]
            simp only [Option.bind_some]
            rw [good_ok hN]
            exact ⟨_, a, b, rfl, e2.tol.fnd 0⟩
          · rw [if_neg c5, if_neg c5, finds_ok hN]
            exact ⟨_, a, b, rfl, h.fnd _⟩
        · rw [if_neg c4, if_neg c4]; exact ⟨f, a, b, rfl, h⟩
      · rw [if_neg c3, if_neg c3]; exact ⟨f, a, b, rfl, h⟩
    · rw [if_neg c2, if_neg c2]; exact ⟨f, a, b, rfl, h⟩
  · rw [if_neg c1, if_neg c1]; exact ⟨f, a, b, rfl, h⟩
end MF
