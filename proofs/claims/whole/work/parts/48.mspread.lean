/-! the reference searches -/
/-- a state of D discs on P pegs -/
def VX (P D x : Nat) : Prop := x < 8192 ∧ (∀ d, d < D → pgx x d < P) ∧ ∀ d, D ≤ d → d < 6 → pgx x d = 0
theorem mvr_D {H D : Nat} {kd : Nat → Nat} {x p q : Nat} (hD : D ≤ 6) (h : mvr H D kd x p q < 6) : mvr H D kd x p q < D ∧ pgx x (mvr H D kd x p q) = p := by
  unfold mvr at h ⊢
  split at h
  · exact absurd h (by omega)
  · next c =>
    split at h
    · next c2 =>
      rw [if_neg c, if_pos c2]
      exact low_D hD (by omega)
    · exact absurd h (by omega)
theorem VX.nx {P H D : Nat} {kd : Nat → Nat} {x k : Nat} (hD : D ≤ 6) (h : VX P D x) (hk : lgl P H D kd x k = true) : VX P D (bhd H D kd x k) := by
  obtain ⟨k1, k2, k3, k4⟩ := (lgl_iff P H D kd x k).mp hk
  obtain ⟨m1, m2⟩ := mvr_D hD k4
  refine ⟨bhd_lt h.1 hk, fun d hd => ?_, fun d hd hd6 => ?_⟩
  · unfold bhd
    rw [nxt_pg h.1 k4 (by omega) (by omega)]
    split
    · exact k3
    · exact h.2.1 d hd
  · unfold bhd
    rw [nxt_pg h.1 k4 (by omega) (by omega), if_neg (by omega)]
    exact h.2.2 d hd hd6
/-- the search as the reference holds it -/
def HB (f : Nat → Int32) (a : Nat → Nat → Int32) (S : BS) : Prop := f 16 = nI S.n ∧ (∀ j, j < S.n → a 61 j = nI (S.q j)) ∧ ∀ x, x < 8192 → a 60 x = match S.ix x with
  | none => -1
  | some j => nI (S.dq j)
/-- all but the search is as it was -/
def FrS (f f' : Nat → Int32) (a a' : Nat → Nat → Int32) : Prop := (∀ i, i ≠ 16 → f' i = f i) ∧ ∀ i, i ≠ 60 → i ≠ 61 → a' i = a i
theorem FrS.refl {f : Nat → Int32} {a : Nat → Nat → Int32} : FrS f f a a := ⟨fun _ _ => rfl, fun _ _ _ => rfl⟩
theorem FrS.tr {f f' f'' : Nat → Int32} {a a' a'' : Nat → Nat → Int32} (h1 : FrS f f' a a') (h2 : FrS f' f'' a' a'') : FrS f f'' a a'' := ⟨fun i hi => by rw [h2.1 i hi, h1.1 i hi], fun i x y => by rw [h2.2 i x y, h1.2 i x y]⟩
theorem Told.frS {f f' : Nat → Int32} {a a' : Nat → Nat → Int32} {P H D : Nat} {kd : Nat → Nat} (h : Told f (a 58) P H D kd) (hf : FrS f f' a a') : Told f' (a' 58) P H D kd := by
  unfold Told
  rw [hf.2 58 (by decide) (by decide), hf.1 21 (by decide), hf.1 20 (by decide), hf.1 19 (by decide)]
  exact h
/-- what is found stays -/
def BS.ext (s s' : BS) : Prop := s.n ≤ s'.n ∧ ∀ j, j < s.n → s'.q j = s.q j ∧ s'.dq j = s.dq j
theorem BS.ext.refl {s : BS} : BS.ext s s := ⟨Nat.le_refl _, fun _ _ => ⟨rfl, rfl⟩⟩
theorem BS.ext.tr {s s' s'' : BS} (h1 : BS.ext s s') (h2 : BS.ext s' s'') : BS.ext s s'' := ⟨Nat.le_trans h1.1 h2.1, fun j hj => by
  have := h1.1
  rw [(h2.2 j (by omega)).1, (h2.2 j (by omega)).2]
  exact h1.2 j hj⟩
theorem bsC_ext {s : BS} {i y k : Nat} : BS.ext s (bsC s i y k) := by
  unfold bsC
  split
  · refine ⟨by show s.n ≤ s.n + 1; omega, fun j hj => ⟨?_, ?_⟩⟩
    · show vu s.q s.n y j = s.q j
      exact vu_n (by omega)
    · show vu s.dq s.n (s.dq i + 1) j = s.dq j
      exact vu_n (by omega)
  · exact BS.ext.refl
theorem nI_n1 {n : Nat} (h : n < 2 ^ 31) : ¬ nI n = -1 := fun e => by
  have := congrArg Int32.toInt e
  rw [nI_toInt h, show (-1 : Int32).toInt = -1 from rfl] at this
  omega
theorem nI_ge0 {n : Nat} (h : n < 2 ^ 31) : (0 : Int32) ≤ nI n := by
  rw [Int32.le_iff_toInt_le, nI_toInt h]; show (0 : Int) ≤ _; omega
theorem nI_nlt0 {n : Nat} (h : n < 2 ^ 31) : ¬ nI n < 0 := by
  rw [Int32.lt_iff_toInt_lt, nI_toInt h]; show ¬ _ < (0 : Int); omega
section MS
variable {N m : Nat} {f : Nat → Int32} {a : Nat → Nat → Int32} {b : Nat → Nat → Int64} {s : AS} {σ : Hp} {P H D : Nat} {kd : Nat → Nat} {s0 : Nat}
theorem spr_79 (hN : 66 ≤ N) (hD : D ≤ 6) {i : Nat} {v1 : Int32} {x : Nat} (hx : x < 8192) : ∀ (r t k : Nat) (S : BS) (f : Nat → Int32) (a : Nat → Nat → Int32), k + r = 16 → r < t → BI (lgl P H D kd) (bhd H D kd) (VX P D) s0 S i k → i < S.n → S.q i = x → HB f a S → Told f (a 58) P H D kd → ∃ f' a' S', L_X9_spreads_79 N 53 v1 (nI x) (nI (mms P H D kd x)) t (MH σ f a b) (nI k) = some (MH σ f' a' b) ∧ FrS f f' a a' ∧ BI (lgl P H D kd) (bhd H D kd) (VX P D) s0 S' i 16 ∧ HB f' a' S' ∧ BS.ext S S' := by
  have hm := mms_lt P H D kd x
  intro r
  induction r with
  | zero =>
    intro t k S f a hk ht hI hi hq hH hT
    obtain ⟨t, rfl⟩ : ∃ k, t = k + 1 := ⟨t - 1, by omega⟩
    obtain rfl : k = 16 := by omega
    exact ⟨f, a, S, by rw [L_X9_spreads_79.eq_2, if_pos (by decide +kernel)], FrS.refl, hI, hH, BS.ext.refl⟩
  | succ r ih =>
    intro t k S f a hk ht hI hi hq hH hT
    obtain ⟨t, rfl⟩ : ∃ k, t = k + 1 := ⟨t - 1, by omega⟩
    have hn := hI.n_le
    rw [L_X9_spreads_79.eq_2, if_neg (show ¬ (16 : Int32) ≤ nI k by rw [show (16 : Int32) = nI 16 from rfl, nI_leI (by omega) (by omega)]; omega), has_ok (by omega) (by omega)]
    simp only [Option.bind_some]
    rw [nI_1]
    cases e : (mms P H D kd x).testBit k with
    | false =>
      simp only [Bool.false_eq_true, if_false, if_true]
      exact ih t (k + 1) S f a (by omega) (by omega) (hI.skip (by rw [hq]; exact e)) hi hq hH hT
    | true =>
      have hl : lgl P H D kd x k = true := e
      have hy := bhd_lt hx hl
      have hV : VX P D (bhd H D kd (S.q i) k) := ((hI.2.1 i hi).2.2).nx hD (by rw [hq]; exact hl)
      have hcome := hI.come hi (by omega) (by rw [hq]; exact hl) (by rw [hq]; exact hy) hV
      rw [hq] at hcome
      simp only [if_true]
      rw [if_neg (show ¬ (1 : Int32) = 0 by decide +kernel), MH_r13 hN, behind_ok hN hT hx hl]
      simp only [Option.bind_some]
      rw [MH_a60 hN hy]
      simp only [Option.bind_some]
      cases ei : S.ix (bhd H D kd x k) with
      | some j =>
        have hj := hI.2.2.1 _ _ ei
        have hd := hI.dq_le j j (Nat.le_refl _) hj.1
        have e60 : a 60 (bhd H D kd x k) = nI (S.dq j) := by rw [hH.2.2 _ hy, ei]
        rw [e60, if_pos (nI_ge0 (by omega))]
        have hS : bsC S i (bhd H D kd x k) k = S := by unfold bsC; rw [if_neg (by rw [ei]; simp)]
        rw [hS] at hcome
        exact ih t (k + 1) S f a (by omega) (by omega) hcome hi hq hH hT
      | none =>
        have hnl := hI.n_lt hy ei
        have e60 : a 60 (bhd H D kd x k) = -1 := by rw [hH.2.2 _ hy, ei]
        have eqx : S.ix x = some i := by rw [← hq]; exact (hI.2.1 i hi).1
        have e60x : a 60 x = nI (S.dq i) := by rw [hH.2.2 _ hx, eqx]
        have hd := hI.dq_le i i (Nat.le_refl _) hi
        rw [e60, if_neg (show ¬ (0 : Int32) ≤ -1 by decide +kernel), MH_a60 hN hx, e60x]
        simp only [Option.bind_some]
        rw [MH_s60 hN hy, nI_1]
        simp only [Option.bind_some]
        rw [MH_r14 hN, MH_f16 hN, hH.1]
        simp only [Option.bind_some]
        have hT1 : Told f ((va_up a 60 (upd (a 60) (bhd H D kd x k) (nI (S.dq i + 1)))) 58) P H D kd := by rw [vup_n (by decide)]; exact hT
        rw [behind_ok hN hT1 hx hl]
        simp only [Option.bind_some]
        rw [MH_s61 hN hnl]
        simp only [Option.bind_some]
        rw [MH_f16 hN, hH.1]
        simp only [Option.bind_some]
        rw [MH_put (j := 16) hN (by omega), nI_1]
        simp only [Option.bind_some]
        rw [vup_n (show 61 ≠ 60 by decide)]
        have hS : bsC S i (bhd H D kd x k) k = (S.n + 1, vu S.q S.n (bhd H D kd x k), vu S.ix (bhd H D kd x k) (some S.n), vu S.dq S.n (S.dq i + 1), vu S.pq S.n i, vu S.mq S.n k) := by unfold bsC; rw [if_pos ei]
        have hE : BS.ext S (bsC S i (bhd H D kd x k) k) := bsC_ext
        have fr : FrS f (upd f 16 (nI (S.n + 1))) a (va_up (va_up a 60 (upd (a 60) (bhd H D kd x k) (nI (S.dq i + 1)))) 61 (upd (a 61) S.n (nI (bhd H D kd x k)))) := ⟨fun j hj => upd_n hj, fun j h1 h2 => by rw [vup_n h2, vup_n h1]⟩
        have hH' : HB (upd f 16 (nI (S.n + 1))) (va_up (va_up a 60 (upd (a 60) (bhd H D kd x k) (nI (S.dq i + 1)))) 61 (upd (a 61) S.n (nI (bhd H D kd x k)))) (bsC S i (bhd H D kd x k) k) := by
          rw [hS]
          refine ⟨upd_s, fun j hj => ?_, fun z hz => ?_⟩
          · show va_up (α := Nat → Int32) _ 61 _ 61 j = nI (vu S.q S.n (bhd H D kd x k) j)
            rw [vup_s]
            have hj : j < S.n + 1 := hj
            by_cases c : j = S.n
            · subst c; rw [upd_s, vu_s]
            · rw [upd_n c, vu_n c]; exact hH.2.1 j (by omega)
          · show va_up (α := Nat → Int32) _ 61 _ 60 z = match vu S.ix (bhd H D kd x k) (some S.n) z with
              | none => -1
              | some j => nI (vu S.dq S.n (S.dq i + 1) j)
            rw [vup_n (by decide), vup_s]
            by_cases c : z = bhd H D kd x k
            · subst c; rw [upd_s, vu_s]
              show _ = nI (vu S.dq S.n (S.dq i + 1) S.n)
              rw [vu_s]
            · rw [upd_n c, vu_n c, hH.2.2 z hz]
              cases ez : S.ix z with
              | none => rfl
              | some j =>
                show _ = nI (vu S.dq S.n (S.dq i + 1) j)
                rw [vu_n (by have := (hI.2.2.1 _ _ ez).1; omega)]
        obtain ⟨f', a', S', g1, g2, g3, g4, g5⟩ := ih t (k + 1) _ _ _ (by omega) (by omega) hcome (by have := hE.1; omega) (by rw [(hE.2 i hi).1]; exact hq) hH' (hT.frS fr)
        exact ⟨f', a', S', g1, fr.tr g2, g3, g4, hE.tr g5⟩
theorem spr_55 (hN : 66 ≤ N) (hD : D ≤ 6) : ∀ (r t i : Nat) (S : BS) (f : Nat → Int32) (a : Nat → Nat → Int32), i + r = 8192 → r < t → BI (lgl P H D kd) (bhd H D kd) (VX P D) s0 S i 0 → HB f a S → Told f (a 58) P H D kd → ∃ f' a' S', L_X9_spreads_55 N 53 t (MH σ f a b) (nI i) = some (MH σ f' a' b) ∧ FrS f f' a a' ∧ BI (lgl P H D kd) (bhd H D kd) (VX P D) s0 S' S'.n 0 ∧ HB f' a' S' := by
  intro r
  induction r with
  | zero =>
    intro t i S f a hi ht hI hH hT
    obtain ⟨t, rfl⟩ : ∃ k, t = k + 1 := ⟨t - 1, by omega⟩
    have hn := hI.n_le
    have hin := hI.1.2.2.2
    obtain rfl : i = S.n := by omega
    refine ⟨f, a, S, ?_, FrS.refl, hI, hH⟩
    rw [L_X9_spreads_55.eq_2, MH_f16 hN, hH.1]
    simp only [Option.bind_some]
    rw [if_pos (by rw [nI_leI (by omega) (by omega)]; omega)]
  | succ r ih =>
    intro t i S f a hi ht hI hH hT
    obtain ⟨t, rfl⟩ : ∃ k, t = k + 1 := ⟨t - 1, by omega⟩
    have hn := hI.n_le
    have hin := hI.1.2.2.2
    by_cases c : i = S.n
    · subst c
      refine ⟨f, a, S, ?_, FrS.refl, hI, hH⟩
      rw [L_X9_spreads_55.eq_2, MH_f16 hN, hH.1]
      simp only [Option.bind_some]
      rw [if_pos (by rw [nI_leI (by omega) (by omega)]; omega)]
    · have hi' : i < S.n := by omega
      obtain ⟨q1, q2, q3⟩ := hI.2.1 i hi'
      obtain ⟨f1, a1, S1, g1, g2, g3, g4, g5⟩ := spr_79 (N := N) (σ := σ) (b := b) (v1 := nI i) hN hD q2 16 fu 0 S f a (by omega) (by decide) hI hi' rfl hH hT
      obtain ⟨f2, a2, S2, k1, k2, k3, k4⟩ := ih t (i + 1) S1 f1 a1 (by omega) (by omega) (g3.next (by have := g5.1; omega)) g4 (hT.frS g2)
      refine ⟨f2, a2, S2, ?_, g2.tr k2, k3, k4⟩
      rw [L_X9_spreads_55.eq_2, MH_f16 hN, hH.1]
      simp only [Option.bind_some]
      rw [if_neg (by rw [nI_leI (by omega) (by omega)]; omega), MH_r14 hN]
      simp only [Option.bind_some]
      rw [MH_a61 hN (by omega), hH.2.1 i hi']
      simp only [Option.bind_some]
      rw [movesOf_ok hN hT q2]
      simp only [Option.bind_some]
      rw [nI_0] at g1
      rw [g1]
      simp only [Option.bind_some]
      rw [nI_1]
      exact k1
theorem spr_6 (hN : 66 ≤ N) : ∀ (r t j : Nat) (a : Nat → Nat → Int32), j + r = 8192 → r < t → ∃ a', L_X9_spreads_6 N 53 t (MH σ f a b) (nI j) = some (MH σ f a' b) ∧ (∀ i, i ≠ 60 → a' i = a i) ∧ ∀ i, i < 8192 → a' 60 i = if j ≤ i then -1 else a 60 i := by
  intro r
  induction r with
  | zero =>
    intro t j a hj ht
    obtain ⟨t, rfl⟩ : ∃ k, t = k + 1 := ⟨t - 1, by omega⟩
    obtain rfl : j = 8192 := by omega
    refine ⟨a, ?_, fun _ _ => rfl, fun i hi => ?_⟩
    · rw [L_X9_spreads_6.eq_2, if_pos (by decide +kernel)]
    · rw [if_neg (by omega)]
  | succ r ih =>
    intro t j a hj ht
    obtain ⟨t, rfl⟩ : ∃ k, t = k + 1 := ⟨t - 1, by omega⟩
    obtain ⟨a', h1, h2, h3⟩ := ih t (j + 1) (va_up a 60 (upd (a 60) j (-1))) (by omega) (by omega)
    refine ⟨a', ?_, fun i hi => by rw [h2 i hi, vup_n hi], fun i hi => ?_⟩
    · rw [L_X9_spreads_6.eq_2, if_neg (show ¬ (8192 : Int32) ≤ nI j by rw [show (8192 : Int32) = nI 8192 from rfl, nI_leI (by omega) (by omega)]; omega), MH_r13 hN]
      simp only [Option.bind_some]
      rw [MH_s60 hN (by omega)]
      simp only [Option.bind_some]
      rw [nI_1]
      exact h1
    · rw [h3 i hi, vup_s]
      by_cases c : i = j
      · subst c; rw [if_neg (by omega), upd_s, if_pos (by omega)]
      · rw [upd_n c]
        by_cases c2 : j + 1 ≤ i
        · rw [if_pos c2, if_pos (by omega)]
        · rw [if_neg c2, if_neg (by omega)]
theorem VX_stx {bd : AB} (hV : VB m bd) (h0 : bd ≠ noB) : VX bd.P bd.D (stx bd) := by
  rcases hV with e | ⟨h1, h2, h3, h4, h5, h6, h7, h8⟩
  · exact absurd e h0
  · have hx := stx_lt (m := m) (b := bd) (Or.inr ⟨h1, h2, h3, h4, h5, h6, h7, h8⟩)
    have hd4 : ∀ d, d < bd.D → bd.pg d < 4 := fun d hd => by have := (h7 d hd).2.2; omega
    have key : ∀ d, d < 6 → pgx (stx bd) d = pgx (encP bd.pg bd.D) d := by
      intro d hd
      unfold stx arn
      split
      · unfold pgx
        rcases (show d = 0 ∨ d = 1 ∨ d = 2 ∨ d = 3 ∨ d = 4 ∨ d = 5 by omega) with rfl | rfl | rfl | rfl | rfl | rfl <;> omega
      · rw [Nat.zero_add]
    refine ⟨hx, fun d hd => ?_, fun d hd h6 => ?_⟩
    · rw [key d (by omega), encP_pg hd4 hd]; exact (h7 d hd).2.2
    · rw [key d h6]
      have hl := encP_lt hd4
      unfold pgx
      rw [Nat.div_eq_of_lt (Nat.lt_of_lt_of_le hl (Nat.pow_le_pow_right (by omega) hd))]
theorem spreads_ok (hN : 66 ≤ N) {bd : AB} (hB : ABm (a 58) 0 bd) (hV : VB m bd) (h0 : bd ≠ noB) (hm : m < 2 ^ 30) : ∃ f' a' S, m_X9_spreads N (MH σ f a b) 53 = some (MH σ f' a' b) ∧ FrS (tolF f (a 58)) f' a a' ∧ BI (lgl bd.P bd.H bd.D bd.kd) (bhd bd.H bd.D bd.kd) (VX bd.P bd.D) (stx bd) S S.n 0 ∧ HB f' a' S ∧ Told f' (a' 58) bd.P bd.H bd.D bd.kd := by
  have hT := told_of (f := f) hB hV
  have hx := stx_lt hV
  obtain ⟨_, h6, _⟩ := hV.d4
  unfold m_X9_spreads
  rw [MH_rv hN, asTold_ok hN]
  simp only [Option.bind_some]
  obtain ⟨a1, g1, g2, g3⟩ := spr_6 (N := N) (f := tolF f (a 58)) (b := b) (σ := σ) hN 8192 fu 0 a (by omega) (by decide)
  rw [nI_0] at g1
  rw [g1]
  simp only [Option.bind_some]
  have hB1 : ABm (a1 58) 0 bd := by rw [g2 58 (by decide)]; exact hB
  rw [MH_r14 hN, state_ok hN hB1 hV hm]
  simp only [Option.bind_some]
  rw [show (0 : Int32) = nI 0 from rfl, MH_s61 hN (by omega)]
  simp only [Option.bind_some]
  rw [MH_r13 hN, MH_r14 hN]
  simp only [Option.bind_some]
  rw [MH_a61 hN (by omega), vup_s, upd_s]
  simp only [Option.bind_some]
  rw [MH_s60 hN hx, vup_n (show 60 ≠ 61 by decide)]
  simp only [Option.bind_some]
  rw [MH_put (j := 16) hN (by omega)]
  simp only [Option.bind_some]
  have fr : FrS (tolF f (a 58)) (upd (tolF f (a 58)) 16 1) a (va_up (va_up a1 61 (upd (a1 61) 0 (nI (stx bd)))) 60 (upd (a1 60) (stx bd) (nI 0))) := ⟨fun j hj => upd_n hj, fun j h1 h2 => by rw [vup_n h1, vup_n h2, g2 j h1]⟩
  have hH : HB (upd (tolF f (a 58)) 16 1) (va_up (va_up a1 61 (upd (a1 61) 0 (nI (stx bd)))) 60 (upd (a1 60) (stx bd) (nI 0))) (bs0 (stx bd)) := by
    refine ⟨by rw [upd_s]; rfl, fun j hj => ?_, fun z hz => ?_⟩
    · have hj : j < 1 := hj
      obtain rfl : j = 0 := by omega
      rw [vup_n (by decide), vup_s, upd_s]
      rfl
    · show va_up (α := Nat → Int32) _ 60 _ 60 z = match vu (fun _ => none) (stx bd) (some 0) z with
        | none => -1
        | some j => nI 0
      rw [vup_s]
      by_cases c : z = stx bd
      · subst c; rw [upd_s, vu_s]
      · rw [upd_n c, vu_n c, g3 z hz, if_pos (Nat.zero_le _)]
  obtain ⟨f', a', S, k1, k2, k3, k4⟩ := spr_55 (N := N) (b := b) (σ := σ) hN h6 8192 fu 0 (bs0 (stx bd)) _ _ (by omega) (by decide) (BI.start hx (VX_stx hV h0)) hH (hT.frS fr)
  rw [nI_0] at k1
  rw [nI_0, k1]
  exact ⟨f', a', S, rfl, fr.tr k2, k3, k4, hT.frS (fr.tr k2)⟩
theorem RM.frs {f' : Nat → Int32} {a' : Nat → Nat → Int32} (h : RM f a s) (hf : FrS (tolF f (a 58)) f' a a') : RM f' a' s := by
  have h' := h.tol
  obtain ⟨h1, h2, h3, h4, h5, h6, h7, h8⟩ := h'
  unfold RM
  rw [hf.2 54 (by decide) (by decide), hf.2 55 (by decide) (by decide), hf.2 56 (by decide) (by decide), hf.2 57 (by decide) (by decide), hf.2 58 (by decide) (by decide), hf.2 59 (by decide) (by decide), hf.2 65 (by decide) (by decide), hf.1 3 (by decide), hf.1 4 (by decide), hf.1 6 (by decide), hf.1 11 (by decide), hf.1 23 (by decide)]
  exact ⟨h1, h2, h3, h4, h5, h6, h7, h8⟩
/-- where the discs lie so -/
def arT (g x : Nat) : Bool := x % 4096 == g
theorem mod4096 {M : Nat} (h : M < 2 ^ 31) : nI M - nI M / 4096 * 4096 = nI (M % 4096) := by
  rw [show (4096 : Int32) = nI 4096 from rfl]; exact pk_rem h (by omega) (by omega)
theorem arT_iff {g x : Nat} (hg : g < 4096) (hx : x < 8192) : arT g x = true ↔ x = g ∨ x = g + 4096 := by
  unfold arT
  rw [beq_iff_eq]
  omega
/-- how many moves it takes; -1: it can't be come to -/
def farI (n : Nat) : Int32 := if n = 8192 then -1 else nI n
theorem farTo_ok (hN : 66 ≤ N) {mv : Nat → Nat → Bool} {nx : Nat → Nat → Nat} {V : Nat → Prop} {S : BS} (hI : BI mv nx V s0 S S.n 0) (hH : HB f a S) {g : Nat} (hg : g < 4096) : m_X9_farTo N (MH σ f a b) 53 (nI g) = some (farI (lsN mv nx (arT g) s0)) := by
  have hn := hI.n_le
  unfold m_X9_farTo
  rw [MH_rv hN, MH_r13 hN, mod4096 (by omega), Nat.mod_eq_of_lt hg]
  simp only [Option.bind_some]
  rw [MH_a60 hN (by omega), show nI g + 4096 = nI (g + 4096) from nI_add g 4096, MH_a60 hN (by omega), hH.2.2 g (by omega), hH.2.2 (g + 4096) (by omega)]
  simp only [Option.bind_some]
  have hT : ∀ j, j < S.n → (arT g (S.q j) = true ↔ S.ix g = some j ∨ S.ix (g + 4096) = some j) := fun j hj => by
    obtain ⟨q1, q2, _⟩ := hI.2.1 j hj
    rw [arT_iff hg q2]
    constructor
    · rintro (e | e)
      · left; rw [← e]; exact q1
      · right; rw [← e]; exact q1
    · rintro (e | e)
      · left; exact (hI.2.2.1 _ _ e).2
      · right; exact (hI.2.2.1 _ _ e).2
  have hdq : ∀ j, j < S.n → S.dq j < 8192 := fun j hj => by have := hI.dq_le j j (Nat.le_refl _) hj; omega
  have fin : ∀ d, d < 8192 → farI d = nI d := fun d hd => by unfold farI; rw [if_neg (by omega)]
  cases e1 : S.ix g with
  | none =>
    cases e2 : S.ix (g + 4096) with
    | none =>
      have : lsN mv nx (arT g) s0 = 8192 := hI.none (fun j hj => by
        apply Bool.eq_false_iff.mpr
        intro c
        rcases (hT j hj).mp c with e | e
        · rw [e1] at e; exact absurd e (by simp)
        · rw [e2] at e; exact absurd e (by simp))
      rw [this]
      rfl
    | some j2 =>
      have hj2 := (hI.2.2.1 _ _ e2).1
      have : lsN mv nx (arT g) s0 = S.dq j2 := hI.least hj2 ((hT j2 hj2).mpr (Or.inr e2)) (fun j' hj' c => by
        rcases (hT j' hj').mp c with e | e
        · rw [e1] at e; exact absurd e (by simp)
        · rw [e2] at e; obtain rfl := Option.some.inj e; exact Nat.le_refl _)
      rw [this, fin _ (hdq j2 hj2)]
      show (if (0 : Int32) ≤ -1 then _ else _) = _
      rw [if_neg (show ¬ (0 : Int32) ≤ -1 by decide +kernel)]
  | some j1 =>
    have hj1 := (hI.2.2.1 _ _ e1).1
    show (if (0 : Int32) ≤ nI (S.dq j1) then _ else _) = _
    rw [if_pos (nI_ge0 (by have := hdq j1 hj1; omega))]
    cases e2 : S.ix (g + 4096) with
    | none =>
      have : lsN mv nx (arT g) s0 = S.dq j1 := hI.least hj1 ((hT j1 hj1).mpr (Or.inl e1)) (fun j' hj' c => by
        rcases (hT j' hj').mp c with e | e
        · rw [e1] at e; obtain rfl := Option.some.inj e; exact Nat.le_refl _
        · rw [e2] at e; exact absurd e (by simp))
      rw [this, fin _ (hdq j1 hj1)]
      show (if (0 : Int32) ≤ -1 then _ else _) = _
      rw [if_neg (show ¬ (0 : Int32) ≤ -1 by decide +kernel)]
    | some j2 =>
      have hj2 := (hI.2.2.1 _ _ e2).1
      have d1 := hdq j1 hj1
      have d2 := hdq j2 hj2
      show (if (0 : Int32) ≤ nI (S.dq j2) then _ else _) = _
      rw [if_pos (nI_ge0 (by omega))]
      show (m_X9_smaller (nI (S.dq j1)) (nI (S.dq j2))).bind _ = _
      by_cases c : S.dq j1 ≤ S.dq j2
      · have : lsN mv nx (arT g) s0 = S.dq j1 := hI.least hj1 ((hT j1 hj1).mpr (Or.inl e1)) (fun j' hj' c => by
          rcases (hT j' hj').mp c with e | e
          · rw [e1] at e; obtain rfl := Option.some.inj e; exact Nat.le_refl _
          · rw [e2] at e; obtain rfl := Option.some.inj e; omega)
        rw [this, fin _ d1, smaller_l (by omega) (by omega) c]
        rfl
      · have : lsN mv nx (arT g) s0 = S.dq j2 := hI.least hj2 ((hT j2 hj2).mpr (Or.inr e2)) (fun j' hj' c => by
          rcases (hT j' hj').mp c with e | e
          · rw [e1] at e; obtain rfl := Option.some.inj e; omega
          · rw [e2] at e; obtain rfl := Option.some.inj e; exact Nat.le_refl _)
        rw [this, fin _ d2]
        unfold m_X9_smaller
        rw [if_pos (show nI (S.dq j2) ≤ nI (S.dq j1) by rw [nI_leI (by omega) (by omega)]; omega)]
        rfl
end MS
