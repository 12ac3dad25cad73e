/-! the class: what calls do with the board -/
theorem enc_out {pg : Nat → Nat} {D d : Nat} (h : ∀ d, d < D → pg d < 4) (hd : D ≤ d) : pgx (encP pg D) d = 0 := by
  unfold pgx
  rw [Nat.div_eq_of_lt (Nat.lt_of_lt_of_le (encP_lt h) (Nat.pow_le_pow_right (by omega) hd))]
theorem arn_set {m : Nat} {b : AB} (hV : VB m b) {d q : Nat} (hd : d < b.D) (hq : q < 4) : setd (arn b) d q = encP (va_up b.pg d q) b.D := by
  obtain ⟨h4, h6, _⟩ := hV.d4
  have ha := arn_lt hV
  have h4' : ∀ e, e < b.D → va_up b.pg d q e < 4 := fun e _ => by
    by_cases c : e = d
    · subst c; rw [vup_s]; exact hq
    · rw [vup_n c]; exact h4 e
  have hl := encP_lt h4'
  have h46 := pow4_6 h6
  refine dig_ext (n := 6) (setd_lt (n := 12) (by omega) (by omega) (by omega) (by omega) hq) (show _ < 4096 by omega) rfl (fun e he => ?_)
  rw [setd_pg (by omega) (by omega) hq]
  by_cases c : e < b.D
  · rw [encP_pg h4' c]
    by_cases c2 : e = d
    · subst c2; rw [if_pos rfl, vup_s]
    · rw [if_neg c2, vup_n c2, arn_pg hV c]
  · rw [enc_out h4' (by omega), if_neg (by omega)]
    exact enc_out (fun d _ => h4 d) (by omega)
theorem lset_ne {x p D d : Nat} (hd : d < D) (hp : pgx x d = p) : lset x p D ≠ 0 := fun e => by
  have : (lset x p D).testBit d = true := by rw [lset_tb]; exact decide_eq_true ⟨hd, hp⟩
  rw [e, Nat.zero_testBit] at this
  exact absurd this (by decide)
theorem lset_arn {m : Nat} {b : AB} (hV : VB m b) (p : Nat) : lset (arn b) p b.D = lset (stx b) p b.D := by
  rw [← stx_mod hV, lset_mod hV.d4.2.1]
section CO
variable {N m : Nat} {σ : Hp} {u : Nat → Nat → Int32} {R : CR} {s : AS}
theorem b4h (hN : 66 ≤ N) : BH N (CH σ u R) 4 (u 4) := CH_b hN b4
theorem co_move (hN : 66 ≤ N) (h : RC u s) (hv : VA m s) (hm : m < 9999) (p q : Int32) : COp N u R (fun τ => m_X8_move N τ 0 p q) (o_move s p q).1 (o_move s p q).2 := by
  intro σ
  show ∃ u', m_X8_move N (CH σ u R) 0 p q = _ ∧ _
  have hB := h.2.2.2.2.1
  have hV := hv.2.2.1
  obtain ⟨h4, h6, hP, hH, hM, hk⟩ := hV.d4
  have ha := arn_lt hV
  have hs := stx_lt hV
  unfold m_X8_move o_move
  rw [C_rv hN, C_r2 hN]
  simp only [Option.bind_some]
  rw [hasPeg_ok (b4h hN) hB.1, hasPeg_ok (b4h hN) hB.1]
  simp only [Option.bind_some, ite10]
  by_cases c1 : isP s p
  · rw [if_pos c1, if_pos c1]
    by_cases c2 : isP s q
    · rw [if_pos c2, if_pos c2]
      by_cases c3 : p = q
      · rw [if_pos c3, if_pos c3]; exact ⟨u, rfl, h⟩
      · rw [if_neg c3, if_neg c3]
        obtain ⟨p, hp, rfl⟩ := ofR (by omega) c1
        obtain ⟨q, hq, rfl⟩ := ofR (by omega) c2
        have hne : p ≠ q := fun e => c3 (by rw [e])
        unfold m_X2_allows
        rw [(b4h hN).rv, movesNow_ok (b4h hN) hB hV (by omega), nt_nI (by omega), nt_nI (by omega), show (4 : Int32) = nI 4 from rfl, pk_mul, nI_add]
        simp only [Option.bind_some]
        have hmm := mms_lt s.bd.P s.bd.H s.bd.D s.bd.kd (stx s.bd)
        rw [ni_bit (by omega) (by omega), tb_div]
        have hlg : (mms s.bd.P s.bd.H s.bd.D s.bd.kd (stx s.bd)).testBit (4 * p + q) = true ↔ mvr s.bd.H s.bd.D s.bd.kd (stx s.bd) p q < 6 := by
          have := lgl_iff s.bd.P s.bd.H s.bd.D s.bd.kd (stx s.bd) (4 * p + q)
          rw [show (4 * p + q) / 4 = p by omega, show (4 * p + q) % 4 = q by omega] at this
          exact this.trans ⟨fun e => e.2.2.2, fun e => ⟨by omega, hp, hq, e⟩⟩
        have hle := mvr_le s.bd.H s.bd.D s.bd.kd (stx s.bd) p q
        by_cases c4 : mvr s.bd.H s.bd.D s.bd.kd (stx s.bd) p q = 6
        · have hf : (mms s.bd.P s.bd.H s.bd.D s.bd.kd (stx s.bd)).testBit (4 * p + q) = false := Bool.eq_false_iff.mpr (fun e => by have := hlg.mp e; omega)
          rw [hf, if_pos c4, if_pos (show nI (if false = true then 1 else 0) = 0 from rfl)]
          simp only [Option.bind_some, if_true]
          exact ⟨u, rfl, h⟩
        · have hlt : mvr s.bd.H s.bd.D s.bd.kd (stx s.bd) p q < 6 := by omega
          have hl : lgl s.bd.P s.bd.H s.bd.D s.bd.kd (stx s.bd) (4 * p + q) = true := hlg.mpr hlt
          rw [hlg.mpr hlt, if_neg c4, if_neg (show ¬ nI (if true = true then 1 else 0) = 0 by decide +kernel)]
          simp only [Option.bind_some]
          rw [if_neg (show ¬ (1 : Int32) = 0 by decide +kernel), (b4h hN).i3, hB.2.2.2.1]
          simp only [Option.bind_some]
          rw [if_pos (show nI s.bd.M < 9999 by rw [show (9999 : Int32) = nI 9999 from rfl, nI_ltI (by omega) (by omega)]; omega)]
          obtain ⟨d1, d2⟩ := mvr_D h6 hlt
          have hlow : mvr s.bd.H s.bd.D s.bd.kd (stx s.bd) p q = low (lset (stx s.bd) p s.bd.D) := by
            unfold mvr at hlt ⊢
            split at hlt
            · exact absurd hlt (by omega)
            · next e1 =>
              split at hlt
              · next e2 => rw [if_neg e1, if_pos e2]
              · exact absurd hlt (by omega)
          rw [topOf_ok (b4h hN) (show arn s.bd < 8192 by omega) hB.2.2.2.2.2 hB.2.1 h6 (by omega) (by rw [lset_arn hV]; exact lset_ne d1 d2), lset_arn hV, C_r4 hN]
          simp only [Option.bind_some]
          obtain ⟨u1, nx, g1, g2, g3, g4, g5, g6⟩ := keep_ok (N := N) (σ := σ) (R := R) hN h hv
          rw [g1]
          simp only [Option.bind_some]
          rw [C_r2 hN]
          simp only [Option.bind_some]
          have e4 : u1 4 = u 4 := g2 4 (by omega) (by omega)
          have hB1 : BR (u1 4) s.bd := by rw [e4]; exact hB
          have hx5 : u1 4 5 = nI (stx s.bd % 4096) := by rw [stx_mod hV]; exact hB1.2.2.2.2.2
          rw [carryOut_ok (CH_b hN b4) (hB1.bl hV) hs hl hx5 hB1.2.2.2.1, CH_ub b4]
          simp only [Option.bind_some]
          rw [← hlow]
          refine ⟨_, rfl, ?_⟩
          refine h.brd (nx := nx) (fun i a b c d => by rw [vup_n a]; exact g2 i c d) ?_ (by rw [vup_n (by omega)]; exact g3) g4 (by rw [vup_n (by omega)]; exact g5) (fun j hj => by rw [vup_n (by omega)]; exact g6 j hj)
          rw [vup_s]
          obtain ⟨k0, k1, k2, k3, k4, k5⟩ := hB1
          refine ⟨?_, ?_, ?_, ?_, ?_, ?_⟩
          · rw [upd_n (by decide), upd_n (by decide)]; exact k0
          · rw [upd_n (by decide), upd_n (by decide)]; exact k1
          · rw [upd_n (by decide), upd_n (by decide)]; exact k2
          · rw [upd_s]; rfl
          · rw [upd_n (by decide), upd_n (by decide)]; exact k4
          · rw [upd_n (by decide), upd_s, bhd_mod hs hl, stx_mod hV, show (4 * p + q) / 4 = p by omega, show (4 * p + q) % 4 = q by omega, arn_set hV d1 (by omega)]; rfl
    · rw [if_neg c2, if_neg c2]; exact ⟨u, rfl, h⟩
  · rw [if_neg c1, if_neg c1]; exact ⟨u, rfl, h⟩
theorem co_put (hN : 66 ≤ N) (h : RC u s) (hv : VA m s) (d p : Int32) : COp N u R (fun τ => m_X8_put N τ 0 d p) (o_put s d p).1 (o_put s d p).2 := by
  intro σ
  show ∃ u', m_X8_put N (CH σ u R) 0 d p = _ ∧ _
  have hB := h.2.2.2.2.1
  have hV := hv.2.2.1
  obtain ⟨h4, h6, hP, hH, hM, hk⟩ := hV.d4
  have ha := arn_lt hV
  unfold m_X8_put o_put
  rw [C_rv hN, C_r2 hN]
  simp only [Option.bind_some]
  rw [hasDisc_ok (b4h hN) hB.2.1, hasPeg_ok (b4h hN) hB.1]
  simp only [Option.bind_some, ite10]
  by_cases c1 : isD s d
  · rw [if_pos c1, if_pos c1]
    by_cases c2 : isP s p
    · rw [if_pos c2, if_pos c2]
      obtain ⟨d, hd, rfl⟩ := ofR (by omega) c1
      obtain ⟨p, hp, rfl⟩ := ofR (by omega) c2
      rw [pegOf_ok (b4h hN) (show arn s.bd < 8192 by omega) hB.2.2.2.2.2 (by omega), arn_pg hV hd, nt_nI (by omega), nt_nI (by omega)]
      simp only [Option.bind_some]
      by_cases c3 : nI (s.bd.pg d) = nI p
      · rw [if_pos c3, if_pos c3]; exact ⟨u, rfl, h⟩
      · rw [if_neg c3, if_neg c3, C_r4 hN]
        simp only [Option.bind_some]
        obtain ⟨u1, nx, g1, g2, g3, g4, g5, g6⟩ := keep_ok (N := N) (σ := σ) (R := R) hN h hv
        rw [g1]
        simp only [Option.bind_some]
        rw [C_r2 hN]
        simp only [Option.bind_some]
        have e4 : u1 4 = u 4 := g2 4 (by omega) (by omega)
        have hB1 : BR (u1 4) s.bd := by rw [e4]; exact hB
        unfold m_X2_layBy
        rw [(b4h hN).rv, (b4h hN).i5, hB1.2.2.2.2.2]
        simp only [Option.bind_some]
        rw [setd_ints (by omega) (by omega) (show p < 4 by omega) (show nI p &&& 3 = nI p by rw [pk_andN (m := 3) (k := 2) (by omega) (by decide +kernel)]; congr 1; exact Nat.mod_eq_of_lt (by omega)), (b4h hN).put (by omega), CH_ub b4]
        simp only [Option.bind_some]
        refine ⟨_, rfl, ?_⟩
        refine h.brd (nx := nx) (fun i a b c d => by rw [vup_n a]; exact g2 i c d) ?_ (by rw [vup_n (by omega)]; exact g3) g4 (by rw [vup_n (by omega)]; exact g5) (fun j hj => by rw [vup_n (by omega)]; exact g6 j hj)
        rw [vup_s]
        obtain ⟨k0, k1, k2, k3, k4, k5⟩ := hB1
        refine ⟨?_, ?_, ?_, ?_, ?_, ?_⟩
        · rw [upd_n (by decide)]; exact k0
        · rw [upd_n (by decide)]; exact k1
        · rw [upd_n (by decide)]; exact k2
        · rw [upd_n (by decide)]; exact k3
        · rw [upd_n (by decide)]; exact k4
        · rw [upd_s, arn_set hV hd (by omega)]; rfl
    · rw [if_neg c2, if_neg c2]; exact ⟨u, rfl, h⟩
  · rw [if_neg c1, if_neg c1]; exact ⟨u, rfl, h⟩
theorem co_high (hN : 66 ≤ N) (h : RC u s) (hv : VA m s) (v : Int32) : COp N u R (fun τ => m_X8_high N τ 0 v) (o_high s v).1 (o_high s v).2 := by
  intro σ
  show ∃ u', m_X8_high N (CH σ u R) 0 v = _ ∧ _
  have hB := h.2.2.2.2.1
  have hV := hv.2.2.1
  unfold m_X8_high o_high
  rw [C_rv hN, C_r2 hN]
  simp only [Option.bind_some]
  rw [isNone_ok (b4h hN) hB hV]
  simp only [Option.bind_some, ite10]
  by_cases c1 : s.bd.P = 0
  · rw [if_pos c1, if_pos c1]; exact ⟨u, rfl, h⟩
  · rw [if_neg c1, if_neg c1, rng2]
    by_cases c2 : 1 ≤ v ∧ v ≤ 6
    · rw [if_pos c2, if_pos c2, (b4h hN).i2, hB.2.2.1, C_r4 hN]
      simp only [Option.bind_some]
      obtain ⟨u1, nx, g1, g2, g3, g4, g5, g6⟩ := keep_ok (N := N) (σ := σ) (R := R) hN h hv
      rw [g1]
      simp only [Option.bind_some]
      rw [C_r2 hN]
      simp only [Option.bind_some]
      have e4 : u1 4 = u 4 := g2 4 (by omega) (by omega)
      have hB1 : BR (u1 4) s.bd := by rw [e4]; exact hB
      rw [(b4h hN).put (by omega), CH_ub b4]
      simp only [Option.bind_some]
      obtain ⟨x, hx, rfl⟩ := ni_of (n := 6) (by omega) (show (0 : Int32) ≤ v by have := c2.1; rw [Int32.le_iff_toInt_le] at this ⊢; exact Int.le_trans (by decide) this) c2.2
      rw [nt_nI (by omega)]
      refine ⟨_, rfl, ?_⟩
      refine h.brd (nx := nx) (fun i a b c d => by rw [vup_n a]; exact g2 i c d) ?_ (by rw [vup_n (by omega)]; exact g3) g4 (by rw [vup_n (by omega)]; exact g5) (fun j hj => by rw [vup_n (by omega)]; exact g6 j hj)
      rw [vup_s]
      obtain ⟨k0, k1, k2, k3, k4, k5⟩ := hB1
      refine ⟨?_, ?_, ?_, ?_, ?_, ?_⟩
      · rw [upd_n (by decide)]; exact k0
      · rw [upd_n (by decide)]; exact k1
      · rw [upd_s]; rfl
      · rw [upd_n (by decide)]; exact k3
      · rw [upd_n (by decide)]; exact k4
      · rw [upd_n (by decide)]; exact k5
    · rw [if_neg c2, if_neg c2]; exact ⟨u, rfl, h⟩
theorem co_undo (hN : 66 ≤ N) (h : RC u s) (hv : VA m s) : COp N u R (fun τ => m_X8_undo N τ 0) (o_undo s).1 (o_undo s).2 := by
  intro σ
  show ∃ u', m_X8_undo N (CH σ u R) 0 = _ ∧ _
  have hna := hv.2.2.2.1.1
  obtain ⟨h6, nx, h61, h62, h63⟩ := h.2.2.2.2.2.1
  unfold m_X8_undo o_undo
  rw [C_rv hN, C_r4 hN, C_r2 hN]
  simp only [Option.bind_some]
  unfold m_X0_takeBack
  rw [A_rv hN, A_i2 hN, h6]
  simp only [Option.bind_some]
  by_cases c1 : s.na = 0
  · rw [if_pos (show nI s.na = 0 by rw [c1]; rfl), if_pos c1]
    simp only [Option.bind_some, if_true]
    exact ⟨u, rfl, h⟩
  · rw [if_neg (nI_ne0 (by omega) (by omega)), if_neg c1, show nI s.na - 1 = nI (s.na - 1) by rw [show (1 : Int32) = nI 1 from rfl, pk_sub (by omega)], A_p2 hN]
    simp only [Option.bind_some]
    rw [A_i1 hN, vup_s, upd_n (by decide), h62]
    simp only [Option.bind_some]
    have hz6 : ((if nI nx ≤ 0 then some 23 else some (nI nx - 1)) : Option Int32) = some (nI ((nx + 23) % 24)) := by
      by_cases c : nx = 0
      · rw [c, if_pos (show nI 0 ≤ 0 by decide +kernel)]; rfl
      · rw [if_neg (nI_nle (by omega) (by omega)), show (1 : Int32) = nI 1 from rfl, pk_sub (by omega), show (nx + 23) % 24 = nx - 1 by omega]
    rw [hz6]
    simp only [Option.bind_some]
    rw [A_p1 hN, vup_s, vup_vup]
    simp only [Option.bind_some]
    rw [A_r0 hN, A_i1 hN, vup_s, upd_s]
    simp only [Option.bind_some]
    rw [C_acts hN (Nat.mod_lt _ (by omega))]
    simp only [Option.bind_some]
    have hbn : isB (8 + (nx + 23) % 24) := Or.inr (Or.inr (Or.inl (by omega)))
    rw [take_ok (CH_b hN b4) (CH_b hN hbn) (by omega), CH_ub b4]
    simp only [Option.bind_some]
    rw [if_neg (show ¬ (1 : Int32) = 0 by decide +kernel), C_r4 hN]
    simp only [Option.bind_some]
    rw [A_i2 hN, vup_n (show 6 ≠ 4 by decide), vup_s, upd_n (by decide), upd_s]
    refine ⟨_, rfl, ?_⟩
    refine h.brd (nx := (nx + 23) % 24) (fun i a b c d => by rw [vup_n a, vup_n c]) ?_ (by rw [vup_n (by omega), vup_s, upd_n (by decide), upd_s]) (Nat.mod_lt _ (by omega)) (by rw [vup_n (by omega), vup_s, upd_s]) (fun j hj => ?_)
    · rw [vup_s, vup_n (show 8 + (nx + 23) % 24 ≠ 6 by omega)]
      have := h63 (s.na - 1) (by omega)
      rw [show 8 + (nx + 24 - s.na + (s.na - 1)) % 24 = 8 + (nx + 23) % 24 by omega] at this
      exact this
    · rw [vup_n (by omega), vup_n (by omega), show 8 + ((nx + 23) % 24 + 24 - (s.na - 1) + j) % 24 = 8 + (nx + 24 - s.na + j) % 24 by omega]
      exact h63 j (by omega)
theorem co_image (hN : 66 ≤ N) (h : RC u s) (hv : VA m s) (k : Int32) : COp N u R (fun τ => m_X8_image N τ 0 k) (o_image s k).1 (o_image s k).2 := by
  intro σ
  show ∃ u', m_X8_image N (CH σ u R) 0 k = _ ∧ _
  have hB := h.2.2.2.2.1
  have hV := hv.2.2.1
  unfold m_X8_image o_image
  rw [C_rv hN]
  simp only [Option.bind_some, lt2]
  rw [rng2]
  by_cases c1 : 0 ≤ k ∧ k ≤ 1
  · obtain ⟨k, hk, rfl⟩ := i1 c1
    rw [if_pos c1, if_pos c1, C_r2 hN]
    simp only [Option.bind_some]
    rw [isNone_ok (b4h hN) hB hV]
    simp only [Option.bind_some, ite10]
    by_cases c2 : s.bd.P = 0
    · rw [if_pos c2, if_pos c2]; exact ⟨u, rfl, h⟩
    · have hbk : isB (51 + k) := Or.inr (Or.inr (Or.inr (by omega)))
      rw [if_neg c2, if_neg c2, C_r5 hN]
      simp only [Option.bind_some]
      rw [C_imgs hN hk]
      simp only [Option.bind_some]
      rw [take_ok (CH_b hN hbk) (CH_b hN b4) (by omega), CH_ub hbk, nt_nI (by omega)]
      refine ⟨_, rfl, ?_⟩
      obtain ⟨h1, h2, h3, h4, h5, ⟨h6, nx, h61, h62, h63⟩, h7, h8⟩ := h
      refine ⟨fun i hi => ?_, by rw [vup_n (by omega)]; exact h2, ⟨by rw [vup_n (by omega)]; exact h3.1, by rw [vup_n (by omega)]; exact h3.2⟩, by rw [vup_n (by omega)]; exact h4, by rw [vup_n (by omega)]; exact h5, ⟨by rw [vup_n (by omega)]; exact h6, nx, h61, by rw [vup_n (by omega)]; exact h62, fun j hj => by rw [vup_n (by omega)]; exact h63 j hj⟩, fun i hi => ?_, ⟨by rw [vup_n (by omega)]; exact h8.1, by rw [vup_n (by omega)]; exact h8.2⟩⟩
      · rw [vup_n (by omega), vup_n (by omega)]; exact h1 i hi
      · show BR _ (imB (va_up s.im k (some s.bd) i))
        by_cases e : i = k
        · subst e; rw [vup_s, vup_s]; exact h5
        · rw [vup_n (by omega), vup_n e]; exact h7 i hi
  · rw [if_neg c1, if_neg c1]; exact ⟨u, rfl, h⟩
theorem co_restore (hN : 66 ≤ N) (h : RC u s) (hv : VA m s) (k : Int32) : COp N u R (fun τ => m_X8_restore N τ 0 k) (o_restore s k).1 (o_restore s k).2 := by
  intro σ
  show ∃ u', m_X8_restore N (CH σ u R) 0 k = _ ∧ _
  unfold m_X8_restore o_restore
  rw [C_rv hN]
  simp only [Option.bind_some, lt2]
  rw [rng2]
  by_cases c1 : 0 ≤ k ∧ k ≤ 1
  · obtain ⟨k, hk, rfl⟩ := i1 c1
    have hbk : isB (51 + k) := Or.inr (Or.inr (Or.inr (by omega)))
    have h7 := h.2.2.2.2.2.2.1 k hk
    rw [if_pos c1, if_pos c1, C_r5 hN, nt_nI (by omega)]
    simp only [Option.bind_some]
    rw [C_imgs hN hk]
    simp only [Option.bind_some]
    cases e : s.im k with
    | none =>
      rw [e] at h7
      rw [isNone_ok (m := 0) (CH_b hN hbk) h7 (Or.inl rfl)]
      simp only [Option.bind_some]
      rw [if_pos (show (imB none).P = 0 from rfl), if_neg (show ¬ (1 : Int32) = 0 by decide +kernel)]
      exact ⟨u, rfl, h⟩
    | some x =>
      rw [e] at h7
      obtain ⟨v1, v2⟩ := hv.2.2.2.2.1 k hk x e
      have hP : x.P ≠ 0 := fun e => v2 ((noB_P v1).mp e)
      rw [isNone_ok (CH_b hN hbk) h7 v1]
      simp only [Option.bind_some]
      rw [if_neg (show ¬ (imB (some x)).P = 0 from hP), if_pos (show (0 : Int32) = 0 from rfl), C_r2 hN]
      simp only [Option.bind_some]
      rw [take_ok (CH_b hN b4) (CH_b hN hbk) (by omega), CH_ub b4]
      simp only [Option.bind_some]
      rw [C_r4 hN]
      simp only [Option.bind_some]
      unfold m_X0_forget
      rw [A_rv hN]
      simp only [Option.bind_some]
      rw [A_p2 hN, vup_n (show 6 ≠ 4 by decide)]
      refine ⟨_, rfl, ?_⟩
      obtain ⟨h6, nx, h61, h62, h63⟩ := h.2.2.2.2.2.1
      refine h.brd (nx := nx) (fun i a b c d => by rw [vup_n c, vup_n a]) (by rw [vup_n (by omega), vup_s]; exact h7) (by rw [vup_s, upd_s]; rfl) h61 (by rw [vup_s, upd_n (by decide)]; exact h62) (fun j hj => absurd hj (Nat.not_lt_zero j))
  · rw [if_neg c1, if_neg c1]; exact ⟨u, rfl, h⟩
end CO
