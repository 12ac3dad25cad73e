/-! the class: ways, chance (second part) -/
section WY
variable {N m : Nat} {σ : Hp} {u : Nat → Nat → Int32} {R : CR} {s : AS}
theorem cpi_s {bd : AB} (hV : VB m bd) (h0 : bd ≠ noB) : cpi (frB bd.kd bd.D) (stx bd) % 4096 = arn bd ∧ arn bd < 4 ^ bd.D ∧ (4096 * (cpi (frB bd.kd bd.D) (stx bd) / 4096) = 0 ∨ (4096 * (cpi (frB bd.kd bd.D) (stx bd) / 4096) = 4096 ∧ frB bd.kd bd.D = true)) := by
  have hsx := stx_lt hV
  have hm := stx_mod hV
  obtain ⟨h4, _⟩ := hV.d4
  refine ⟨?_, encP_lt (fun d _ => h4 d), ?_⟩
  · unfold cpi
    split
    · exact hm
    · rw [Nat.mod_mod]; exact hm
  · unfold cpi
    cases e : frB bd.kd bd.D with
    | true =>
      rw [if_pos rfl]
      by_cases c : stx bd < 4096
      · left; omega
      · right; exact ⟨by omega, rfl⟩
    | false => left; show 4096 * (stx bd % 4096 / 4096) = 0; omega
theorem co_ways (h : RC u s) (hv : VA m s) (hd : DC m N σ R) (hm : m < 2 ^ 30) (r i n : Int32) : COpJ N m u R σ (m_X8_ways N (CH σ u R) 0 r i n) (o_ways s r i n).1 (o_ways s r i n).2 := by
  have hN := hd.1
  have h78 := hd.lt
  have hB := h.2.2.2.2.1
  have hV := hv.2.2.1
  obtain ⟨_, h6, hP, _, _, hkd⟩ := hV.d4
  have same : ∀ r, COpJ N m u R σ (some (r, N, CH σ u R)) r s := fun r => ⟨u, σ, R, N, rfl, h, hd, fun _ _ _ => rfl⟩
  unfold m_X8_ways o_ways
  rw [C_rv hN, C_r2 hN]
  simp only [Option.bind_some]
  rw [isNone_ok (b4h hN) hB hV]
  simp only [Option.bind_some, ite10]
  by_cases c1 : s.bd.P = 0
  · rw [if_pos c1, if_pos c1]; exact same _
  rw [if_neg c1, if_neg c1, rowAt_ok hN]
  simp only [Option.bind_some]
  have h0 := nb_ne c1
  by_cases c2 : 0 ≤ r ∧ r ≤ 7
  · obtain ⟨q, hq, rfl⟩ := i7 c2
    rw [if_pos c2, if_pos c2, nt_nI (by omega)]
    unfold cQ
    simp only []
    rw [rng2]
    by_cases c3 : 0 ≤ n ∧ n ≤ 12
    · rw [if_pos c3, if_pos c3, (b4h hN).i1, hB.2.1]
      simp only [Option.bind_some]
      rw [flaw_ok hN h hv hq]
      simp only [Option.bind_some]
      by_cases c4 : wrg s q i (nI s.bd.D) = 0
      · rw [if_pos c4, if_pos c4, well_ok hN]
        simp only [Option.bind_some]
        obtain ⟨w1, w2⟩ := wrg_0 c4
        obtain ⟨x, w, rfl, ew, g1, g2, g3⟩ := wth_le w2 (hv.1 q hq).2
        have ew : s.bd.D = w := (nI_eq (by omega) (by omega)).mp ew
        obtain ⟨n, hn, rfl⟩ := ni_of (n := 12) (by omega) c3.1 c3.2
        have h' : RC (va_up u 0 (upd (u 0) 11 0)) (s.fnd 0) := h.fnd 0
        have hv' : VA m (s.fnd 0) := hv
        have ha := arr_ok (σ := σ) (R := R) hN h' hv' hq w1 (show x + (s.fnd 0).bd.D ≤ (s.fnd 0).size q by show x + s.bd.D ≤ s.size q; omega)
        rw [C_r2 hN]
        simp only [Option.bind_some]
        rw [show m_X2_arrangedBy N (CH σ (va_up u 0 (upd (u 0) 11 0)) R) 4 (35 + 2 * q) (nI x) = some (tldI s.bd.P (fun d => s.items q (x + d)) s.bd.D) from ha, nt_nI (by omega), nt_nI (by omega)]
        simp only [Option.bind_some]
        unfold tldI
        by_cases c5 : tOK s.bd.P (fun d => s.items q (x + d)) s.bd.D = true
        · have hlt := tldN_lt hP c5
          have h46 := pow4_6 h6
          rw [if_pos c5, if_pos c5, if_pos (show (0 : Int32) ≤ _ from nI_ge0 (by unfold tldN at hlt; omega)), al_ok (DC.HW hd) (fun y hy => by simp at hy; omega) (by omega) (by omega) (by omega)]
          simp only [Option.bind_some]
          rw [show encP (fun d => nt (s.items q (x + d))) s.bd.D = tldN (fun d => s.items q (x + d)) s.bd.D from rfl]
          generalize tldN (fun d => s.items q (x + d)) s.bd.D = g at hlt ⊢
          have hB' : BR (va_up u 0 (upd (u 0) 11 0) 4) s.bd := by rw [vup_n (by decide)]; exact hB
          obtain ⟨nn, l, N', σ', R', a, c, kn, W, C, k1, k2, k3, k4, k5, k6, k7, k8, k9, k10⟩ := layered_ok (u := va_up u 0 (upd (u 0) 11 0)) hd hB' hV h0 hm
          have h78' := k2.lt
          obtain ⟨z1, z2, z3⟩ := cpi_s hV h0
          rw [k1]
          simp only [Option.bind_some]
          rw [nb_ok (by omega)]
          simp only [Option.bind_some]
          unfold m_X3_rowsTo
          rw [L_rv k7]
          simp only [Option.bind_some]
          obtain ⟨a', c', kn', W', C', Wn', o', r1, r2, r3, r4, r5, r6⟩ := rows_2 (v1 := nI g) (v := fun x => if arT g x then 1 else 0) hn n fu 0 a c kn W C _ _ (by omega) (by show _ < 20000; omega) k7 k8 k9 z3 (LK'.start h6 (by rw [z1]; exact z2))
          rw [nI_0] at r1
          rw [r1]
          simp only [Option.bind_some]
          rw [L_r0 r2]
          simp only [Option.bind_some]
          rw [and4095 (by omega), Nat.mod_eq_of_lt (show g < 4096 by omega), L_aa r2 (by omega), r4 g (by omega)]
          simp only [Option.bind_some]
          -- the number
          have hval : Wn' g = wyN s.bd g n := by
            have e1 := r6.1 0
            rw [Nat.zero_mul, Nat.zero_add, Nat.zero_add] at e1
            have e2 : dot (4 ^ s.bd.D) Wn' (fun z => stps (lgl s.bd.P s.bd.H s.bd.D s.bd.kd) (cnx (frB s.bd.kd s.bd.D) s.bd.H s.bd.D s.bd.kd) (cMv s.bd.P s.bd.H s.bd.D s.bd.kd) false (fun x => if arT g x then 1 else 0) 0 (z + o')) = Wn' g := by
              unfold dot
              have hor : o' = 0 ∨ o' = 4096 := r5.imp id And.left
              rw [sgm_one (y := g) (4 ^ s.bd.D) hlt (fun z hz hne => by
                show Wn' z * (if arT g (z + o') then 1 else 0) = 0
                rw [if_neg (show ¬ arT g (z + o') = true from fun e => hne (by unfold arT at e; have := eq_of_beq e; omega)), Nat.mul_zero])]
              show Wn' g * (if arT g (g + o') then 1 else 0) = _
              rw [if_pos (show arT g (g + o') = true by unfold arT; exact beq_iff_eq.mpr (by omega)), Nat.mul_one]
            rw [e2] at e1
            rw [e1]
            obtain ⟨m1, m2, m3⟩ := q_map hV h0 (frB_frl (D := s.bd.D) (kd := s.bd.kd))
            rw [stps_map (c := cMv s.bd.P s.bd.H s.bd.D s.bd.kd) m1 m2 m3 (fun x _ => by unfold cMv; rw [mms_pi h6 (fun d _ => hkd d) frB_frl]) n (stx s.bd) (VX_stx hV h0)]
            unfold wyN
            congr 1
            funext y
            rw [arT_pi]
          rw [hval]
          obtain ⟨d1, d2, d3⟩ := DC_LH (W := W') (C := C') (od := nI o') k2 k3 k4 k5 k6 r2 hB' hV r3
          exact ⟨_, _, R', N', by rw [← d1], h', d2, fun i a b => by rw [d3 i a b, k10 i a b]⟩
        · rw [if_neg c5, if_neg c5, if_neg (show ¬ (0 : Int32) ≤ -1 by decide +kernel)]
          exact ⟨_, σ, R, N, rfl, h', hd, fun _ _ _ => rfl⟩
      · rw [if_neg c4, if_neg c4, found_ok hN]
        exact ⟨_, σ, R, N, rfl, h.fnd _, hd, fun _ _ _ => rfl⟩
    · rw [if_neg c3, if_neg c3]; exact same _
  · rw [if_neg c2, if_neg c2]; exact same _
theorem co_chance (h : RC u s) (hv : VA m s) (hd : DC m N σ R) (hm : m < 2 ^ 30) (d p n w : Int32) : COpJ N m u R σ (m_X8_chance N (CH σ u R) 0 d p n w) (o_chance s d p n w) s := by
  have hN := hd.1
  have h78 := hd.lt
  have hB := h.2.2.2.2.1
  have hV := hv.2.2.1
  obtain ⟨_, h6, hP, _, _, hkd⟩ := hV.d4
  have same : ∀ r, COpJ N m u R σ (some (r, N, CH σ u R)) r s := fun r => ⟨u, σ, R, N, rfl, h, hd, fun _ _ _ => rfl⟩
  unfold m_X8_chance o_chance
  rw [C_rv hN, C_r2 hN]
  simp only [Option.bind_some]
  rw [hasDisc_ok (b4h hN) hB.2.1, hasPeg_ok (b4h hN) hB.1]
  simp only [Option.bind_some, ite10]
  by_cases c1 : 0 ≤ d ∧ d < nI s.bd.D
  · rw [if_pos c1, if_pos c1]
    by_cases c2 : 0 ≤ p ∧ p < nI s.bd.P
    · rw [if_pos c2, if_pos c2, rng3]
      by_cases c3 : 0 ≤ n ∧ n ≤ 7
      · rw [if_pos c3, if_pos c3, rng2]
        by_cases c4 : 0 ≤ w ∧ w ≤ 1
        · rw [if_pos c4, if_pos c4, al_ok (DC.HW hd) (fun y hy => by simp at hy; omega) (by omega) (by omega) (by omega)]
          simp only [Option.bind_some]
          obtain ⟨d, hdd, rfl⟩ := ofR (by omega) c1
          obtain ⟨p, hpp, rfl⟩ := ofR (by omega) c2
          obtain ⟨n, hn, rfl⟩ := ni_of (n := 7) (by omega) c3.1 c3.2
          have h0 : s.bd ≠ noB := nb_ne (by omega)
          rw [nt_nI (by omega), nt_nI (by omega), nt_nI (by omega)]
          obtain ⟨nn, l, N', σ', R', a, c, kn, W, C, k1, k2, k3, k4, k5, k6, k7, k8, k9, k10⟩ := layered_ok (u := u) hd hB hV h0 hm
          have h78' := k2.lt
          obtain ⟨z1, z2, z3⟩ := cpi_s hV h0
          rw [k1]
          simp only [Option.bind_some]
          rw [nb_ok (by omega)]
          simp only [Option.bind_some]
          unfold m_X3_partsOn
          rw [L_rv k7]
          simp only [Option.bind_some]
          obtain ⟨a', c', kn', W', C', Wn', o', pt', r1, r2, r3, r4, r5, r6⟩ := parts_6 (d := d) (p := p) hn (by omega) (by omega) n fu 0 a c kn W C _ _ 0 (by omega) (by show _ < 20000; omega) k7 k8 k9 z3 (LK'.start h6 (by rw [z1]; exact z2))
          rw [nI_0, show lN 0 = 0 from rfl] at r1
          rw [r1]
          simp only [Option.bind_some]
          obtain ⟨kn2, y1, y2⟩ := weightsOn_ok (C := C') r2 (r5.imp id And.left) (show d < 6 by omega) (show p < 4 by omega) r3 r4 (r6.bd (pow_b true (show n ≤ 7 by omega) (Nat.le_refl _))) false
          rw [show m_X3_weightsOn N' (LH (CH σ' u R') nn l kn' a' c' W' C' (nI o')) l (nI d) (nI p) 0 = _ from y1]
          simp only [Option.bind_some]
          -- the number
          have hval : pt' + sgm (wOn s.bd.P s.bd.H s.bd.D s.bd.kd Wn' o' d p false) (4 ^ s.bd.D) = chN s.bd d p n := by
            have h46 := pow4_6 h6
            have e1 := r6.1 0
            rw [Nat.pow_zero, Nat.mul_one, Nat.zero_add] at e1
            have e2 : dot (4 ^ s.bd.D) Wn' (fun z => stps (lgl s.bd.P s.bd.H s.bd.D s.bd.kd) (cnx (frB s.bd.kd s.bd.D) s.bd.H s.bd.D s.bd.kd) (cMv s.bd.P s.bd.H s.bd.D s.bd.kd) true (fun x => if pgx x d == p then 1 else 0) 0 (z + o')) = sgm (wOn s.bd.P s.bd.H s.bd.D s.bd.kd Wn' o' d p false) (4 ^ s.bd.D) := by
              unfold dot
              have hor : o' = 0 ∨ o' = 4096 := r5.imp id And.left
              refine sgm_congr (4 ^ s.bd.D) (fun z hz => ?_)
              show Wn' z * (if pgx (z + o') d == p then 1 else 0) = _
              rw [show pgx (z + o') d = pgx z d by rw [← pgx_mod (x := z + o') (show d < 6 by omega), show (z + o') % 4096 = z by omega]]
              unfold wOn
              cases pgx z d == p with
              | true => rw [if_pos rfl, Nat.mul_one]; rfl
              | false => rw [if_neg (by decide), Nat.mul_zero]; rfl
            rw [e2] at e1
            rw [e1]
            obtain ⟨m1, m2, m3⟩ := q_map hV h0 (frB_frl (D := s.bd.D) (kd := s.bd.kd))
            rw [stps_map (c := cMv s.bd.P s.bd.H s.bd.D s.bd.kd) m1 m2 m3 (fun x _ => by unfold cMv; rw [mms_pi h6 (fun d _ => hkd d) frB_frl]) n (stx s.bd) (VX_stx hV h0)]
            unfold chN
            congr 1
            funext y
            have : pgx (cpi (frB s.bd.kd s.bd.D) y) d = pgx y d := by
              unfold cpi
              split
              · rfl
              · exact pgx_mod (by omega)
            rw [this]
          rw [lN_add, hval]
          unfold m_X3_partsOfAll
          rw [L_rv r2]
          simp only [Option.bind_some]
          have hall := all_5 (N := N') (σ := LH (CH σ' u R') nn l kn2 a' c' W' C' (nI o')) hn n fu 0 (by omega) (by show _ < 20000; omega)
          rw [nI_0, show lN (60 ^ 0) = 1 from rfl] at hall
          rw [hall]
          simp only [Option.bind_some]
          have h60 : 60 ^ n ≤ 60 ^ 7 := Nat.pow_le_pow_right (by omega) hn
          have h42 : 60 ^ 7 < 2 ^ 42 := by decide
          have hpos : 0 < 60 ^ n := Nat.pow_pos (by omega)
          have hup : chN s.bd d p n ≤ 60 ^ n := by
            have key : ∀ r x, stps (lgl s.bd.P s.bd.H s.bd.D s.bd.kd) (bhd s.bd.H s.bd.D s.bd.kd) (cMv s.bd.P s.bd.H s.bd.D s.bd.kd) true (fun x => if pgx x d == p then 1 else 0) r x ≤ 60 ^ r := by
              intro r
              induction r with
              | zero =>
                intro x
                show (if pgx x d == p then 1 else 0) ≤ 1
                split <;> omega
              | succ r ih =>
                intro x
                rw [stps, stp, Nat.pow_succ]
                have e1 : sgm (fun k => if lgl s.bd.P s.bd.H s.bd.D s.bd.kd x k then byw (cMv s.bd.P s.bd.H s.bd.D s.bd.kd) true x * stps (lgl s.bd.P s.bd.H s.bd.D s.bd.kd) (bhd s.bd.H s.bd.D s.bd.kd) (cMv s.bd.P s.bd.H s.bd.D s.bd.kd) true (fun x => if pgx x d == p then 1 else 0) r (bhd s.bd.H s.bd.D s.bd.kd x k) else 0) 16 ≤ sgm (fun k => if lgl s.bd.P s.bd.H s.bd.D s.bd.kd x k then byw (cMv s.bd.P s.bd.H s.bd.D s.bd.kd) true x * 60 ^ r else 0) 16 := sgm_le 16 (fun k _ => by
                  cases lgl s.bd.P s.bd.H s.bd.D s.bd.kd x k with
                  | true => exact Nat.mul_le_mul_left _ (ih _)
                  | false => exact Nat.le_refl _)
                rw [sgm_cnt, cMv_ok] at e1
                have e2 := ih x
                by_cases c0 : cMv s.bd.P s.bd.H s.bd.D s.bd.kd x = 0
                · rw [c0, Nat.zero_mul] at e1
                  rw [if_pos (show (true && cMv s.bd.P s.bd.H s.bd.D s.bd.kd x == 0) = true by rw [c0]; rfl)]
                  omega
                · have e3 : cMv s.bd.P s.bd.H s.bd.D s.bd.kd x * (byw (cMv s.bd.P s.bd.H s.bd.D s.bd.kd) true x * 60 ^ r) ≤ 60 * 60 ^ r := by
                    rw [← Nat.mul_assoc]
                    exact Nat.mul_le_mul_right _ (Nat.mul_div_le 60 _)
                  rw [if_neg (show ¬ (true && cMv s.bd.P s.bd.H s.bd.D s.bd.kd x == 0) = true from fun e => c0 (beq_iff_eq.mp e)), Nat.zero_add, Nat.mul_comm (60 ^ r) 60]
                  exact Nat.le_trans e1 e3
            exact key n (stx s.bd)
          unfold m_X8_commonOf
          rw [show L_X8_commonOf_9 fu (lN (chN s.bd d p n)) (lN (60 ^ n)) 0 = _ from common_ok 42 fu 0 _ _ (by omega) (by omega) (by omega) (by decide) (by omega)]
          simp only [Option.bind_some]
          have hgp := gcl_pos 42 (chN s.bd d p n) (60 ^ n) (by omega) (by omega)
          have hge := gcl_end 42 (chN s.bd d p n) (60 ^ n) (by omega) 200 (by omega)
          have hgl : gcl (2 * 42) (chN s.bd d p n) (60 ^ n) < 2 ^ 62 := by
            have : ∀ r x y, x < 2 ^ 62 → y < 2 ^ 62 → gcl r x y < 2 ^ 62 := by
              intro r
              induction r with
              | zero => intro x y hx _; exact hx
              | succ r ih =>
                intro x y hx hy
                rw [gcl_s]
                split
                · exact hx
                · next hc => exact ih _ _ hy (Nat.lt_trans (Nat.mod_lt _ (by omega)) hy)
            exact this _ _ _ (by omega) (by omega)
          rw [hge]
          generalize hG : gcl (2 * 42) (chN s.bd d p n) (60 ^ n) = G at hgp hgl ⊢
          rw [if_neg (show ¬ lg_cmp (lN G) 0 = 0 from fun e => by have := (lcmp_eq (by omega)).mp e; omega), nzJ, if_neg (lN_ne0 hgp (by omega))]
          simp only [Option.bind_some]
          rw [pk_lDiv (by omega) hgp (by omega), pk_lDiv (by omega) hgp (by omega)]
          obtain ⟨d1, d2, d3⟩ := DC_LH (W := W') (C := C') (od := nI o') k2 k3 k4 k5 k6 r2 hB hV y2
          by_cases cw : w = 0
          · rw [if_pos cw, if_pos cw]
            exact ⟨u, _, R', N', by rw [← d1], h, d2, fun i a b => by rw [d3 i a b, k10 i a b]⟩
          · rw [if_neg cw, if_neg cw]
            exact ⟨u, _, R', N', by rw [← d1], h, d2, fun i a b => by rw [d3 i a b, k10 i a b]⟩
        · rw [if_neg c4, if_neg c4]; exact same _
      · rw [if_neg c3, if_neg c3]; exact same _
    · rw [if_neg c2, if_neg c2]; exact same _
  · rw [if_neg c1, if_neg c1]; exact same _
end WY
