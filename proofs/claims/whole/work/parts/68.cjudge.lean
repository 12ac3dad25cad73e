/-! the class: judge, fits, drawn -/
/-- a board that plays: its law, where it stands, how many moves -/
def Pl (g : Nat → Int32) (P H D : Nat) (kd : Nat → Nat) (x M : Nat) : Prop := BL g P H D kd ∧ x < 8192 ∧ g 5 = nI (x % 4096) ∧ g 3 = nI M ∧ M % 2 = x / 4096
theorem Pl.of {m : Nat} {g : Nat → Int32} {b : AB} (h : BR g b) (hV : VB m b) : Pl g b.P b.H b.D b.kd (stx b) b.M := by
  have ha := arn_lt hV
  refine ⟨h.bl hV, stx_lt hV, by rw [stx_mod hV]; exact h.2.2.2.2.2, h.2.2.2.1, ?_⟩
  rw [stx_eq]; omega
theorem BL.up {g : Nat → Int32} {P H D : Nat} {kd : Nat → Nat} (h : BL g P H D kd) {g' : Nat → Int32} (e : g' 0 = g 0 ∧ g' 1 = g 1 ∧ g' 2 = g 2 ∧ g' 4 = g 4) : BL g' P H D kd := by
  unfold BL
  rw [e.1, e.2.1, e.2.2.1, e.2.2.2]; exact h
section CJ
variable {N m : Nat} {τ : Hp} {c : Nat} {g : Nat → Int32} {P H D : Nat} {kd : Nat → Nat} {x M : Nat}
theorem Pl.moves (h : Pl g P H D kd x M) (hb : BH N τ c g) (hM : M < 2 ^ 31) : m_X2_movesNow N τ c = some (nI (mms P H D kd x)) := by
  obtain ⟨hL, hx, h5, h3, hp⟩ := h
  have := movesNow_gen hb hL (x := x % 4096) (Nat.mod_lt _ (by omega)) hM h5 h3
  rw [hp, show x % 4096 + 4096 * (x / 4096) = x by omega] at this
  exact this
theorem Pl.carry (h : Pl g P H D kd x M) (hb : BH N τ c g) {k : Nat} (hk : lgl P H D kd x k = true) : ∃ g', m_X2_carryOut N τ c (nI k) = some (va_up τ c (bC g')) ∧ Pl g' P H D kd (bhd H D kd x k) (M + 1) := by
  obtain ⟨hL, hx, h5, h3, hp⟩ := h
  refine ⟨_, carryOut_ok hb hL hx hk h5 h3, hL.up ⟨?_, ?_, ?_, ?_⟩, bhd_lt hx hk, ?_, upd_s, ?_⟩
  · rw [upd_n (by decide), upd_n (by decide)]
  · rw [upd_n (by decide), upd_n (by decide)]
  · rw [upd_n (by decide), upd_n (by decide)]
  · rw [upd_n (by decide), upd_n (by decide)]
  · rw [upd_n (by decide), upd_s]
  · rw [bhd_par hx hk]; omega
end CJ
section CJ2
variable {N m : Nat} {σ : Hp} {u : Nat → Nat → Int32} {R : CR} {s : AS} {P H D : Nat} {kd : Nat → Nat}
theorem b5h (hN : 66 ≤ N) : BH N (CH σ u R) 5 (u 5) := CH_b hN b5
/-- moves that items tell -/
theorem fw_loop (hN : 66 ≤ N) {q i0 n : Nat} (hq : q < 8) (hl : s.lane q ≠ -1) (hs : s.size q ≤ 40) (hi : i0 + n ≤ s.size q) : ∀ (r t k x M : Nat) (u : Nat → Nat → Int32), k + r = n → r < t → RC u s → Pl (u 5) P H D kd x M → M + r < 2 ^ 31 → ∃ z u', L_X2_firstWrong_3 N 5 (35 + 2 * q) (nI i0) (nI n) t (CH σ u R) (nI k) = some z ∧ cS z (fun w => some ((-1000000 : Int32), w)) (fun q => some q) = some (jd P H D kd (fun k => s.items q (i0 + k)) r k x, CH σ u' R) ∧ ∀ i, i ≠ 5 → u' i = u i := by
  intro r
  induction r with
  | zero =>
    intro t k x M u hk ht h hp hM
    obtain ⟨t, rfl⟩ : ∃ k, t = k + 1 := ⟨t - 1, by omega⟩
    obtain rfl : k = n := by omega
    exact ⟨_, u, by rw [L_X2_firstWrong_3.eq_2, if_pos (nI_le (Nat.le_refl _) (by omega))], rfl, fun _ _ => rfl⟩
  | succ r ih =>
    intro t k x M u hk ht h hp hM
    obtain ⟨t, rfl⟩ : ∃ k, t = k + 1 := ⟨t - 1, by omega⟩
    obtain ⟨hL, hx, h5, h3, hpar⟩ := hp
    obtain ⟨l1, l2, l3, hP, h6, hH, _, hkd⟩ := hL
    rw [L_X2_firstWrong_3.eq_2, if_neg (nI_ge (by omega) (by omega)), nI_add, itemAt_ok hN h hq hl (by omega) hs]
    simp only [Option.bind_some]
    rw [jd]
    generalize s.items q (i0 + k) = it
    unfold m_X2_numberOf
    rw [(b5h hN).rv]
    simp only [Option.bind_some]
    have stop : (¬ ((0 ≤ it ∧ nt it / 10 < P ∧ nt it % 10 < P) ∧ mvr H D kd x (nt it / 10) (nt it % 10) < 6)) → ∃ z u', some (Sum.inr (nI k, CH σ u R) : Hp ⊕ (Int32 × Hp)) = some z ∧ cS z (fun w => some ((-1000000 : Int32), w)) (fun q => some q) = some ((if (0 ≤ it ∧ nt it / 10 < P ∧ nt it % 10 < P) ∧ mvr H D kd x (nt it / 10) (nt it % 10) < 6 then jd P H D kd (fun k => s.items q (i0 + k)) r (k + 1) (nxt x (mvr H D kd x (nt it / 10) (nt it % 10)) (nt it % 10)) else nI k), CH σ u' R) ∧ ∀ i, i ≠ 5 → u' i = u i := fun hno => ⟨_, u, rfl, by rw [if_neg hno]; rfl, fun _ _ => rfl⟩
    by_cases c1 : it < 0
    · rw [if_pos c1]
      simp only [Option.bind_some]
      rw [if_pos (show (-1 : Int32) < 0 by decide +kernel)]
      exact stop (fun e => by have := e.1.1; rw [Int32.le_iff_toInt_le] at this; rw [Int32.lt_iff_toInt_lt] at c1; omega)
    · obtain ⟨v, hv, rfl⟩ := nI_of c1
      rw [nt_nI hv] at stop ⊢
      rw [if_neg c1, show (10 : Int32) = nI 10 from rfl, pk_rem hv (by omega) (by omega), pk_div hv (by omega) (by omega), hasPeg_ok (b5h hN) l1, hasPeg_ok (b5h hN) l1]
      simp only [Option.bind_some, ite10]
      by_cases c2 : v / 10 < P
      · rw [if_pos (show 0 ≤ nI (v / 10) ∧ nI (v / 10) < nI P from ⟨nI_ge0 (by omega), by rw [nI_ltI (by omega) (by omega)]; exact c2⟩)]
        by_cases c3 : v % 10 < P
        · rw [if_pos (show 0 ≤ nI (v % 10) ∧ nI (v % 10) < nI P from ⟨nI_ge0 (by omega), by rw [nI_ltI (by omega) (by omega)]; exact c3⟩), show (4 : Int32) = nI 4 from rfl, pk_mul, nI_add]
          simp only [Option.bind_some]
          rw [if_neg (nI_nlt0 (by omega))]
          unfold m_X2_allows
          have hpl : Pl (u 5) P H D kd x M := ⟨⟨l1, l2, l3, hP, h6, hH, by assumption, hkd⟩, hx, h5, h3, hpar⟩
          rw [(b5h hN).rv, hpl.moves (b5h hN) (by omega)]
          simp only [Option.bind_some]
          have hmm := mms_lt P H D kd x
          rw [ni_bit (by omega) (by omega), tb_div]
          have hlg : (mms P H D kd x).testBit (4 * (v / 10) + v % 10) = true ↔ mvr H D kd x (v / 10) (v % 10) < 6 := by
            have := lgl_iff P H D kd x (4 * (v / 10) + v % 10)
            rw [show (4 * (v / 10) + v % 10) / 4 = v / 10 by omega, show (4 * (v / 10) + v % 10) % 4 = v % 10 by omega] at this
            exact this.trans ⟨fun e => e.2.2.2, fun e => ⟨by omega, c2, c3, e⟩⟩
          by_cases c4 : mvr H D kd x (v / 10) (v % 10) < 6
          · have hl2 : lgl P H D kd x (4 * (v / 10) + v % 10) = true := hlg.mpr c4
            rw [hlg.mpr c4, if_neg (show ¬ nI (if true = true then 1 else 0) = 0 by decide +kernel)]
            simp only [Option.bind_some]
            rw [if_neg (show ¬ (1 : Int32) = 0 by decide +kernel)]
            obtain ⟨g', k1, k2⟩ := hpl.carry (b5h hN) hl2
            rw [k1, CH_ub b5]
            simp only [Option.bind_some]
            rw [nI_1]
            have hbe : bhd H D kd x (4 * (v / 10) + v % 10) = nxt x (mvr H D kd x (v / 10) (v % 10)) (v % 10) := by
              unfold bhd
              rw [show (4 * (v / 10) + v % 10) / 4 = v / 10 by omega, show (4 * (v / 10) + v % 10) % 4 = v % 10 by omega]
            rw [hbe] at k2
            obtain ⟨z, u', m1, m2, m3⟩ := ih t (k + 1) _ (M + 1) (va_up u 5 g') (by omega) (by omega) (h.tri (fun i hi => vup_n hi)) (by rw [vup_s]; exact k2) (by omega)
            refine ⟨z, u', m1, ?_, fun i hi => by rw [m3 i hi, vup_n hi]⟩
            rw [if_pos (show (0 ≤ nI v ∧ v / 10 < P ∧ v % 10 < P) ∧ mvr H D kd x (v / 10) (v % 10) < 6 from ⟨⟨nI_ge0 hv, c2, c3⟩, c4⟩)]
            exact m2
          · have hf : (mms P H D kd x).testBit (4 * (v / 10) + v % 10) = false := Bool.eq_false_iff.mpr (fun e => c4 (hlg.mp e))
            rw [hf, if_pos (show nI (if false = true then 1 else 0) = 0 from rfl)]
            simp only [Option.bind_some, if_true]
            exact stop (fun e => c4 e.2)
        · rw [if_neg (show ¬ (0 ≤ nI (v % 10) ∧ nI (v % 10) < nI P) from fun e => by have := e.2; rw [nI_ltI (by omega) (by omega)] at this; exact c3 this)]
          simp only [Option.bind_some]
          rw [if_pos (show (-1 : Int32) < 0 by decide +kernel)]
          exact stop (fun e => c3 e.1.2.2)
      · rw [if_neg (show ¬ (0 ≤ nI (v / 10) ∧ nI (v / 10) < nI P) from fun e => by have := e.2; rw [nI_ltI (by omega) (by omega)] at this; exact c2 this)]
        simp only [Option.bind_some]
        rw [if_pos (show (-1 : Int32) < 0 by decide +kernel)]
        exact stop (fun e => c2 e.1.2.1)
theorem fw_ok (hN : 66 ≤ N) (h : RC u s) {q i0 n x M : Nat} (hq : q < 8) (hl : s.lane q ≠ -1) (hs : s.size q ≤ 40) (hi : i0 + n ≤ s.size q) (hp : Pl (u 5) P H D kd x M) (hM : M < 2 ^ 30) : ∃ u', m_X2_firstWrong N (CH σ u R) 5 (35 + 2 * q) (nI i0) (nI n) = some (jd P H D kd (fun k => s.items q (i0 + k)) n 0 x, CH σ u' R) ∧ ∀ i, i ≠ 5 → u' i = u i := by
  obtain ⟨z, u', m1, m2, m3⟩ := fw_loop (N := N) (σ := σ) (R := R) (s := s) hN hq hl hs hi n fu 0 x M u (by omega) (by show _ < 20000; omega) h hp (by omega)
  refine ⟨u', ?_, m3⟩
  unfold m_X2_firstWrong
  rw [(b5h hN).rv]
  simp only [Option.bind_some]
  rw [nI_0] at m1
  rw [m1]
  exact m2
theorem wrg_0 {k : Nat} {i n : Int32} (h : wrg s k i n = 0) : s.lane k ≠ -1 ∧ wthB s k i n = true := by
  unfold wrg at h
  by_cases c5 : s.lane k = -1
  · rw [if_pos c5] at h; exact absurd h (by decide +kernel)
  · rw [if_neg c5] at h
    refine ⟨c5, ?_⟩
    cases h5 : wthB s k i n with
    | true => rfl
    | false => rw [h5] at h; exact absurd h (by decide +kernel)
theorem co_judge (hN : 66 ≤ N) (h : RC u s) (hv : VA m s) (hm : m < 2 ^ 29) (r i n : Int32) : COp N u R (fun τ => m_X8_judge N τ 0 r i n) (o_judge s r i n).1 (o_judge s r i n).2 := by
  intro σ
  show ∃ u', m_X8_judge N (CH σ u R) 0 r i n = _ ∧ _
  have hB := h.2.2.2.2.1
  have hV := hv.2.2.1
  have hMm := hV.d4.2.2.2.2.1
  unfold m_X8_judge o_judge
  rw [C_rv hN, C_r2 hN]
  simp only [Option.bind_some]
  rw [isNone_ok (b4h hN) hB hV]
  simp only [Option.bind_some, ite10]
  by_cases c1 : s.bd.P = 0
  · rw [if_pos c1, if_pos c1]; exact ⟨u, rfl, h⟩
  rw [if_neg c1, if_neg c1, rowAt_ok hN]
  simp only [Option.bind_some]
  by_cases c2 : 0 ≤ r ∧ r ≤ 7
  · obtain ⟨q, hq, rfl⟩ := i7 c2
    rw [if_pos c2, if_pos c2, nt_nI (by omega)]
    unfold cQ
    simp only []
    rw [rng2]
    by_cases c3 : 1 ≤ n ∧ n ≤ 16
    · rw [if_pos c3, if_pos c3, flaw_ok hN h hv hq]
      simp only [Option.bind_some]
      by_cases c4 : wrg s q i n = 0
      · rw [if_pos c4, if_pos c4, C_r3 hN]
        simp only [Option.bind_some]
        obtain ⟨w1, w2⟩ := wrg_0 c4
        obtain ⟨x, w, rfl, rfl, g1, g2, g3⟩ := wth_le w2 (hv.1 q hq).2
        rw [take_ok (b5h hN) (b4h hN) (by decide), CH_ub b5]
        simp only [Option.bind_some]
        rw [C_r3 hN]
        simp only [Option.bind_some]
        obtain ⟨u', k1, k2⟩ := fw_ok (N := N) (σ := σ) (R := R) (u := va_up u 5 (u 4)) (M := s.bd.M) hN (h.tri (fun i hi => vup_n hi)) hq w1 (hv.1 q hq).2 g1 (by rw [vup_s]; exact Pl.of hB hV) (by omega)
        rw [k1, nt_nI (by omega), nt_nI (by omega)]
        simp only [Option.bind_some]
        rw [well_ok hN]
        exact ⟨_, rfl, (h.tri (fun i hi => by rw [k2 i hi, vup_n hi])).fnd 0⟩
      · rw [if_neg c4, if_neg c4, found_ok hN]
        exact ⟨_, rfl, h.fnd _⟩
    · rw [if_neg c3, if_neg c3]; exact ⟨u, rfl, h⟩
  · rw [if_neg c2, if_neg c2]; exact ⟨u, rfl, h⟩
end CJ2
