/-! the class: board -/
theorem K_ext {K K' : Nat} (h : K < 2 ^ 18) (h' : K' < 2 ^ 18) (e : ∀ d, d < 6 → K / 8 ^ d % 8 = K' / 8 ^ d % 8) : K = K' := by
  have e0 := e 0 (by omega); have e1 := e 1 (by omega); have e2 := e 2 (by omega); have e3 := e 3 (by omega); have e4 := e 4 (by omega); have e5 := e 5 (by omega)
  rw [show 8 ^ 0 = 1 from rfl] at e0
  rw [show 8 ^ 1 = 8 from rfl] at e1
  rw [show 8 ^ 2 = 64 from rfl] at e2
  rw [show 8 ^ 3 = 512 from rfl] at e3
  rw [show 8 ^ 4 = 4096 from rfl] at e4
  rw [show 8 ^ 5 = 32768 from rfl] at e5
  omega
theorem enK_dig {kd : Nat → Nat} (h : ∀ d, kd d ≤ 5) {d : Nat} (hd : d < 6) : enK kd / 8 ^ d % 8 = kd d := by
  have := h 0; have := h 1; have := h 2; have := h 3; have := h 4; have := h 5
  unfold enK
  rcases (show d = 0 ∨ d = 1 ∨ d = 2 ∨ d = 3 ∨ d = 4 ∨ d = 5 by omega) with rfl | rfl | rfl | rfl | rfl | rfl <;> omega
theorem enK_lt {kd : Nat → Nat} (h : ∀ d, kd d ≤ 5) : enK kd < 2 ^ 18 := by
  have := h 0; have := h 1; have := h 2; have := h 3; have := h 4; have := h 5
  unfold enK; omega
theorem enK_set {kd : Nat → Nat} (h : ∀ d, kd d ≤ 5) {d k : Nat} (hd : d < 6) (hk : k ≤ 5) : set3 (enK kd) d k = enK (va_up kd d k) := by
  have h' : ∀ e, va_up kd d k e ≤ 5 := fun e => by
    by_cases c : e = d
    · subst c; rw [vup_s]; exact hk
    · rw [vup_n c]; exact h e
  refine K_ext (set3_lt (enK_lt h) hd (by omega)) (enK_lt h') (fun e he => ?_)
  rw [set3_dig (enK_lt h) hd (by omega) he, enK_dig h' he, enK_dig h he]
  by_cases c : e = d
  · subst c; rw [if_pos rfl, vup_s]
  · rw [if_neg c, vup_n c]
theorem enc_add {pg : Nat → Nat} {n v : Nat} (h : ∀ d, d < n → pg d < 4) (hn : n < 6) (hv : v < 4) : setd (encP pg n) n v = encP (va_up pg n v) (n + 1) := by
  have h' : ∀ d, d < n + 1 → va_up pg n v d < 4 := fun d hd => by
    by_cases c : d = n
    · subst c; rw [vup_s]; exact hv
    · rw [vup_n c]; exact h d (by omega)
  have hl := encP_lt h
  have hl' := encP_lt h'
  have p1 := pow4_6 (show n ≤ 6 by omega)
  have p2 := pow4_6 (show n + 1 ≤ 6 by omega)
  refine dig_ext (n := 6) (setd_lt (n := 12) (show encP pg n < 2 ^ 12 by omega) (by omega) (by omega) hn hv) (show _ < 4096 by omega) rfl (fun e he => ?_)
  rw [setd_pg (by omega) hn hv]
  by_cases c : e = n
  · subst c; rw [if_pos rfl, encP_pg h' (by omega), vup_s]
  · rw [if_neg c]
    by_cases c2 : e < n
    · rw [encP_pg h c2, encP_pg h' (by omega), vup_n c]
    · rw [enc_out h (by omega), enc_out h' (by omega)]
theorem enK_0 : enK (fun _ => 0) = 0 := by simp [enK]
theorem VP.le {P H n : Nat} {b : AB} (h : VP P H n b) : (∀ d, b.kd d ≤ 5) ∧ ∀ d, d < n → b.pg d < P := by
  obtain ⟨_, _, _, _, _, h6, h7⟩ := h
  refine ⟨fun d => ?_, fun d hd => (h6 d hd).2.2⟩
  by_cases c : d < n
  · exact (h6 d c).2.1
  · rw [(h7 d (by omega)).1]; omega
section CR2
variable {N m : Nat} {σ : Hp} {u : Nat → Nat → Int32} {R : CR} {s : AS} {P H n : Nat} {bd : AB}
theorem readDisc_ok (hN : 66 ≤ N) (h : TC u s) {p : Nat} (h2 : u 2 2 = nI p) (hp : p ≤ s.tl) (hB : BR (u 5) bd) (hV : VP P H n bd) (hP : P = 3 ∨ P = 4) : ∃ u' b, m_X7_readDisc N (CH σ u R) 2 5 = some (b, CH σ u' R) ∧ G25 u u' ∧ match pDisc s bd p with
    | .inl (w, pl) => b = 0 ∧ u' 2 3 = nI w ∧ u' 2 2 = nI pl
    | .inr (b', q) => b = 1 ∧ u' 2 2 = nI q ∧ BR (u' 5) b' := by
  have h60 := h.2.1
  have hVP := hV
  obtain ⟨v1, v2, v3, v4, v5, v6, v7⟩ := hV
  obtain ⟨hk5, hpg⟩ := hVP.le
  have hbt : ∀ j, j < s.tl → s.tb j < 256 := fun j hj => (h.2.2 j hj).1
  have bad : ∀ (w : Nat), ∃ u' b, ((m_X7_faulty N (CH σ u R) 2 (nI w)).bind fun r => (zb r.1).bind fun u' => some (r.1, r.2)) = some (b, CH σ u' R) ∧ G25 u u' ∧ b = 0 ∧ u' 2 3 = nI w ∧ u' 2 2 = nI p := fun w => by
    rw [faulty_ok hN]
    simp only [Option.bind_some]
    rw [show zb 0 = some () from rfl]
    exact ⟨_, _, rfl, (G2.up (by decide)).g25, rfl, by rw [vup_s, upd_s], by rw [vup_s, upd_n (by decide)]; exact h2⟩
  unfold m_X7_readDisc pDisc
  rw [T_rv hN, T_i hN (by omega), h2]
  simp only [Option.bind_some]
  rw [cbyte_ok hN h (by omega)]
  simp only [Option.bind_some]
  rw [csort_ok hbt]
  simp only [Option.bind_some]
  by_cases c1 : srt (bt s p) = 0
  · rw [c1, if_pos (show nI 0 = 0 from rfl), if_pos rfl]
    exact bad 1
  · have hs := srt_le (bt s p)
    have hpl := srt_ne c1
    rw [if_neg (nI_ne0 (by omega) (by omega)), if_neg c1, (b5h hN).i1, hB.2.1, v3]
    simp only [Option.bind_some]
    by_cases c2 : n = 6
    · rw [if_neg (show ¬ nI n < 6 by rw [c2]; decide +kernel), if_pos c2]
      exact bad 3
    · rw [if_pos (show nI n < 6 by rw [show (6 : Int32) = nI 6 from rfl, nI_ltI (by omega) (by omega)]; omega), if_neg c2, T_p hN (by omega), nI_1]
      simp only [Option.bind_some]
      have g1 : G2 u (va_up u 2 (upd (u 2) 2 (nI (p + 1)))) := G2.up (by decide)
      have e5 : va_up u 2 (upd (u 2) 2 (nI (p + 1))) 5 = u 5 := vup_n (by decide)
      rw [(b5h hN).i0, e5, hB.1, v1]
      simp only [Option.bind_some]
      obtain ⟨u2, b2, k1, k2, k3⟩ := readNumber_ok (N := N) (σ := σ) (R := R) (lo := 0) (hi := P - 1) hN (h.g g1.g25) (by rw [vup_s, upd_s]) (show p + 1 ≤ s.tl by omega) (by omega) (by omega)
      rw [show nI P - 1 = nI (P - 1) by rw [show (1 : Int32) = nI 1 from rfl, pk_sub (by omega)], show m_X7_readNumber N (CH σ (va_up u 2 (upd (u 2) 2 (nI (p + 1)))) R) 2 0 (nI (P - 1)) = _ from k1]
      simp only [Option.bind_some]
      have g2 := g1.tr k2
      cases e : pNum s (p + 1) 0 (P - 1) with
      | inl r =>
        obtain ⟨w, pl⟩ := r
        rw [e] at k3
        obtain ⟨rfl, k4, k5⟩ := k3
        simp only [if_true]
        exact ⟨u2, 0, rfl, g2.g25, rfl, k4, k5⟩
      | inr r =>
        obtain ⟨v, q⟩ := r
        rw [e] at k3
        obtain ⟨rfl, k4, k5⟩ := k3
        obtain ⟨n1, n2, n3, n4, n5⟩ := pNum_inr e
        rw [if_neg (show ¬ (1 : Int32) = 0 by decide +kernel)]
        obtain ⟨u3, b3, l1, l2, l3, l4⟩ := passes_ok (N := N) (σ := σ) (R := R) (c := 59) hN (h.g g2.g25) k4 (by omega) (by omega)
        rw [show m_X7_passes N (CH σ u2 R) 2 59 = _ from l1]
        simp only [Option.bind_some]
        have g3 := g2.tr l2
        cases e2 : pSg s 59 q with
        | inl r =>
          obtain ⟨w, pl⟩ := r
          rw [e2] at l4
          obtain ⟨rfl, l5, l6⟩ := l4
          simp only [if_true]
          exact ⟨u3, 0, rfl, g3.g25, rfl, l5, l6⟩
        | inr q' =>
          rw [e2] at l4
          obtain ⟨rfl, l5⟩ := l4
          have e53 : u3 5 = u 5 := g3.1 5 (by decide)
          have hB3 : BR (u3 5) bd := by rw [e53]; exact hB
          obtain ⟨q0, q1, q2, q3, q4, q5⟩ := hB3
          have hv3 : u3 2 4 = nI v := by rw [l3]; exact k5
          rw [if_neg (show ¬ (1 : Int32) = 0 by decide +kernel), (b5h hN).i1, q1, v3]
          simp only [Option.bind_some]
          unfold m_X2_sortAs
          rw [(b5h hN).rv, (b5h hN).i4, q4]
          simp only [Option.bind_some]
          rw [set3_ints (enK_lt hk5) (by omega) (by omega), (b5h hN).put (by omega), CH_ub b5]
          simp only [Option.bind_some]
          have hb1 : ∀ g, BH N (CH σ (va_up u3 5 g) R) 5 g := fun g => by
            have := CH_b (σ := σ) (u := va_up u3 5 g) (R := R) hN b5
            rw [vup_s] at this
            exact this
          rw [(hb1 _).i1, upd_n (by decide), q1, v3, T_i hN (by omega), vup_n (show 2 ≠ 5 by decide), hv3]
          simp only [Option.bind_some]
          unfold m_X2_layBy
          rw [(hb1 _).rv, (hb1 _).i5, upd_n (by decide), q5]
          simp only [Option.bind_some]
          have hd4 : ∀ d, d < n → bd.pg d < 4 := fun d hd => by have := hpg d hd; omega
          have harn : arn bd = encP bd.pg n := by unfold arn; rw [v3]
          have hal : arn bd < 4096 := by
            rw [harn]
            exact Nat.lt_of_lt_of_le (encP_lt hd4) (pow4_6 v5)
          rw [setd_ints (t := v) (by omega) (by omega) (by omega) (show nI v &&& 3 = nI v by rw [pk_andN (m := 3) (k := 2) (by omega) (by decide +kernel)]; congr 1; exact Nat.mod_eq_of_lt (by omega)), (hb1 _).put (by omega), CH_ub b5, vup_vup]
          simp only [Option.bind_some]
          rw [(hb1 _).i1, upd_n (by decide), upd_n (by decide), q1, v3]
          simp only [Option.bind_some]
          rw [(hb1 _).put (by omega), CH_ub b5, vup_vup, nI_1]
          refine ⟨_, _, rfl, g3.g25.tr G25.up5, rfl, by rw [vup_n (by decide)]; exact l5, ?_⟩
          rw [vup_s]
          refine ⟨?_, ?_, ?_, ?_, ?_, ?_⟩
          · rw [upd_n (by decide), upd_n (by decide), upd_n (by decide)]; exact q0
          · rw [upd_s, ← v3]; rfl
          · rw [upd_n (by decide), upd_n (by decide), upd_n (by decide)]; exact q2
          · rw [upd_n (by decide), upd_n (by decide), upd_n (by decide)]; exact q3
          · rw [upd_n (by decide), upd_n (by decide), upd_s, enK_set hk5 (by omega) hs, ← v3]; rfl
          · rw [upd_n (by decide), upd_s, harn, enc_add hd4 (by omega) (by omega)]
            unfold arn addD
            rw [v3]
theorem ri_loop (hN : 66 ≤ N) (hP : P = 3 ∨ P = 4) : ∀ (r n t p : Nat) (bd : AB) (u : Nat → Nat → Int32), VP P H n bd → n + r = 7 → r < t → TC u s → u 2 2 = nI p → p ≤ s.tl → (p < s.tl ∨ n = 0) → BR (u 5) bd → ∃ z b u', L_X7_readInto_21 N 2 5 t (CH σ u R) (nI n) = some z ∧ cS z (fun w => some ((1 : Int32), w)) (fun q => some q) = some (b, CH σ u' R) ∧ G25 u u' ∧ match pDiscs s r bd p with
    | .inl (w, pl) => b = 0 ∧ u' 2 3 = nI w ∧ u' 2 2 = nI pl
    | .inr b' => b = 1 ∧ BR (u' 5) b' := by
  intro r
  induction r with
  | zero => intro n t p bd u hV hr; have := hV.2.2.2.2.1; omega
  | succ r ih =>
    intro n t p bd u hV hr ht h h2 hp hpn hB
    have h60 := h.2.1
    have hn6 := hV.2.2.2.2.1
    obtain ⟨t, rfl⟩ : ∃ k, t = k + 1 := ⟨t - 1, by omega⟩
    obtain ⟨u1, b1, g1, g2, g3⟩ := readDisc_ok (N := N) (σ := σ) (R := R) hN h h2 hp hB hV hP
    have hstep : L_X7_readInto_21 N 2 5 (t + 1) (CH σ u R) (nI n) = if b1 = 0 then some (.inr (0, CH σ u1 R)) else L_X7_readInto_21 N 2 5 t (CH σ u1 R) (nI n + 1) := by
      rw [L_X7_readInto_21.eq_2, if_neg (show ¬ (6 : Int32) < nI n by rw [show (6 : Int32) = nI 6 from rfl, nI_ltI (by omega) (by omega)]; omega), g1]
      by_cases c : n = 0
      · rw [if_pos (show nI n ≤ 0 by rw [c]; decide +kernel)]; rfl
      · rw [if_neg (nI_nle (by omega) (by omega)), T_i hN (by omega), T_i hN (by omega), h2, h.1]
        simp only [Option.bind_some]
        rw [if_pos (show nI p < nI s.tl by rw [nI_ltI (by omega) (by omega)]; omega)]
    rw [hstep, pDiscs]
    cases e : pDisc s bd p with
    | inl x =>
      obtain ⟨w, pl⟩ := x
      rw [e] at g3
      obtain ⟨rfl, g4, g5⟩ := g3
      rw [if_pos rfl]
      exact ⟨_, 0, u1, rfl, rfl, g2, rfl, g4, g5⟩
    | inr x =>
      obtain ⟨b', q⟩ := x
      rw [e] at g3
      obtain ⟨rfl, g4, g5⟩ := g3
      obtain ⟨d1, d2, d3, d4, v, d5, rfl⟩ := pDisc_inr e
      have hV2 := hV.add (k := srt (bt s p)) (v := v) (by have := hV.2.2.1; omega) ⟨by omega, srt_le _⟩ (by have := hV.1; omega)
      rw [if_neg (show ¬ (1 : Int32) = 0 by decide +kernel), nI_1]
      by_cases c : q < s.tl
      · obtain ⟨z, b, u2, l1, l2, l3, l4⟩ := ih (n + 1) t q _ u1 hV2 (by omega) (by omega) (h.g g2) g4 d3 (Or.inl c) g5
        refine ⟨z, b, u2, l1, l2, g2.tr l3, ?_⟩
        simp only [c, if_true]
        exact l4
      · obtain ⟨t, rfl⟩ : ∃ k, t = k + 1 := ⟨t - 1, by omega⟩
        refine ⟨.inr (1, CH σ u1 R), 1, u1, ?_, rfl, g2, ?_⟩
        · have hD1 := hV2.2.2.2.2.1
          rw [L_X7_readInto_21.eq_2, if_neg (show ¬ (6 : Int32) < nI (n + 1) by rw [show (6 : Int32) = nI 6 from rfl, nI_ltI (by omega) (by omega)]; omega), if_neg (nI_nle (by omega) (by omega)), T_i hN (by omega), T_i hN (by omega), g4, (h.g g2).1]
          simp only [Option.bind_some]
          rw [if_neg (show ¬ nI q < nI s.tl by rw [nI_ltI (by omega) (by omega)]; exact c)]
        · simp only [c, if_false]
          exact ⟨trivial, g5⟩
theorem clear_ok (hN : 66 ≤ N) : ∃ g, m_X2_clear N (CH σ u R) 5 = some (CH σ (va_up u 5 g) R) ∧ ∀ j, j < 6 → g j = 0 := by
  have hb1 : ∀ g, BH N (CH σ (va_up u 5 g) R) 5 g := fun g => by
    have := CH_b (σ := σ) (u := va_up u 5 g) (R := R) hN b5
    rw [vup_s] at this
    exact this
  unfold m_X2_clear
  rw [(b5h hN).rv]
  simp only [Option.bind_some]
  rw [(b5h hN).put (by omega), CH_ub b5]
  simp only [Option.bind_some]
  rw [(hb1 _).put (by omega), CH_ub b5, vup_vup]
  simp only [Option.bind_some]
  rw [(hb1 _).put (by omega), CH_ub b5, vup_vup]
  simp only [Option.bind_some]
  rw [(hb1 _).put (by omega), CH_ub b5, vup_vup]
  simp only [Option.bind_some]
  rw [(hb1 _).put (by omega), CH_ub b5, vup_vup]
  simp only [Option.bind_some]
  rw [(hb1 _).put (by omega), CH_ub b5, vup_vup]
  refine ⟨_, rfl, fun j hj => ?_⟩
  rcases (show j = 0 ∨ j = 1 ∨ j = 2 ∨ j = 3 ∨ j = 4 ∨ j = 5 by omega) with rfl | rfl | rfl | rfl | rfl | rfl <;> rfl
/-- pegs and high -/
theorem readLaw_ok (hN : 66 ≤ N) (h : TC u s) (h2 : u 2 2 = nI 0) (hz : ∀ j, j < 6 → u 5 j = 0) : ∃ u' b, m_X7_readLaw N (CH σ u R) 2 5 = some (b, CH σ u' R) ∧ G25 u u' ∧ match pLaw s with
    | .inl (w, pl) => b = 0 ∧ u' 2 3 = nI w ∧ u' 2 2 = nI pl
    | .inr (P, H, q) => b = 1 ∧ u' 2 2 = nI q ∧ BR (u' 5) (nwB P H) := by
  have h60 := h.2.1
  unfold m_X7_readLaw
  rw [T_rv hN]
  simp only [Option.bind_some]
  obtain ⟨u1, b1, g1, g2, _, g4⟩ := passes_ok (N := N) (σ := σ) (R := R) (c := 116) hN h h2 (by omega) (by omega)
  rw [show m_X7_passes N (CH σ u R) 2 116 = _ from g1]
  simp only [Option.bind_some]
  cases e1 : pSg s 116 0 with
  | inl x =>
    obtain ⟨w, pl⟩ := x
    rw [e1] at g4
    obtain ⟨rfl, g5, g6⟩ := g4
    have hL : pLaw s = .inl (w, pl) := by unfold pLaw; simp only [e1]
    rw [hL]
    simp only [if_true]
    exact ⟨u1, 0, rfl, g2.g25, rfl, g5, g6⟩
  | inr p1 =>
    rw [e1] at g4
    obtain ⟨rfl, g5⟩ := g4
    obtain ⟨_, _, q1⟩ := pSg_inr (by decide) e1
    rw [if_neg (show ¬ (1 : Int32) = 0 by decide +kernel)]
    obtain ⟨u2, b2, k1, k2, k3⟩ := readNumber_ok (N := N) (σ := σ) (R := R) (lo := 3) (hi := 4) hN (h.g g2.g25) g5 q1 (by omega) (by omega)
    rw [show m_X7_readNumber N (CH σ u1 R) 2 3 4 = _ from k1]
    simp only [Option.bind_some]
    have f2 := g2.tr k2
    cases e2 : pNum s p1 3 4 with
    | inl x =>
      obtain ⟨w, pl⟩ := x
      rw [e2] at k3
      obtain ⟨rfl, k4, k5⟩ := k3
      have hL : pLaw s = .inl (w, pl) := by unfold pLaw; simp only [e1, e2]
      rw [hL]
      simp only [if_true]
      exact ⟨u2, 0, rfl, f2.g25, rfl, k4, k5⟩
    | inr x =>
      obtain ⟨P, p2⟩ := x
      rw [e2] at k3
      obtain ⟨rfl, k4, k5⟩ := k3
      obtain ⟨_, _, _, _, q2⟩ := pNum_inr e2
      rw [if_neg (show ¬ (1 : Int32) = 0 by decide +kernel), T_i hN (by omega), k5]
      simp only [Option.bind_some]
      rw [(b5h hN).put (by omega), CH_ub b5]
      simp only [Option.bind_some]
      have f3 : G25 u (va_up u2 5 (upd (u2 5) 0 (nI P))) := f2.g25.tr G25.up5
      obtain ⟨u4, b4, l1, l2, l3, l4⟩ := passes_ok (N := N) (σ := σ) (R := R) (c := 44) hN (h.g f3) (by rw [vup_n (by decide)]; exact k4) (by omega) (by omega)
      rw [show m_X7_passes N (CH σ (va_up u2 5 (upd (u2 5) 0 (nI P))) R) 2 44 = _ from l1]
      simp only [Option.bind_some]
      have f4 := f3.tr l2.g25
      cases e3 : pSg s 44 p2 with
      | inl x =>
        obtain ⟨w, pl⟩ := x
        rw [e3] at l4
        obtain ⟨rfl, l5, l6⟩ := l4
        have hL : pLaw s = .inl (w, pl) := by unfold pLaw; simp only [e1, e2, e3]
        rw [hL]
        simp only [if_true]
        exact ⟨u4, 0, rfl, f4, rfl, l5, l6⟩
      | inr p3 =>
        rw [e3] at l4
        obtain ⟨rfl, l5⟩ := l4
        obtain ⟨_, _, q3⟩ := pSg_inr (by decide) e3
        rw [if_neg (show ¬ (1 : Int32) = 0 by decide +kernel)]
        obtain ⟨u5, b5', r1, r2, r3⟩ := readNumber_ok (N := N) (σ := σ) (R := R) (lo := 1) (hi := 6) hN (h.g f4) l5 q3 (by omega) (by omega)
        rw [show m_X7_readNumber N (CH σ u4 R) 2 1 6 = _ from r1]
        simp only [Option.bind_some]
        have f5 := f4.tr r2.g25
        cases e4 : pNum s p3 1 6 with
        | inl x =>
          obtain ⟨w, pl⟩ := x
          rw [e4] at r3
          obtain ⟨rfl, r4, r5⟩ := r3
          have hL : pLaw s = .inl (w, pl) := by unfold pLaw; simp only [e1, e2, e3, e4]
          rw [hL]
          simp only [if_true]
          exact ⟨u5, 0, rfl, f5, rfl, r4, r5⟩
        | inr x =>
          obtain ⟨H, p4⟩ := x
          rw [e4] at r3
          obtain ⟨rfl, r4, r5⟩ := r3
          obtain ⟨_, _, _, _, q4⟩ := pNum_inr e4
          rw [if_neg (show ¬ (1 : Int32) = 0 by decide +kernel), T_i hN (by omega), r5]
          simp only [Option.bind_some]
          rw [(b5h hN).put (by omega), CH_ub b5]
          simp only [Option.bind_some]
          have f6 : G25 u (va_up u5 5 (upd (u5 5) 2 (nI H))) := f5.tr G25.up5
          obtain ⟨u7, b7, t1, t2, t3, t4⟩ := passes_ok (N := N) (σ := σ) (R := R) (c := 59) hN (h.g f6) (by rw [vup_n (by decide)]; exact r4) (by omega) (by omega)
          rw [show m_X7_passes N (CH σ (va_up u5 5 (upd (u5 5) 2 (nI H))) R) 2 59 = _ from t1]
          simp only [Option.bind_some]
          have f7 := f6.tr t2.g25
          cases e5 : pSg s 59 p4 with
          | inl x =>
            obtain ⟨w, pl⟩ := x
            rw [e5] at t4
            obtain ⟨rfl, t5, t6⟩ := t4
            have hL : pLaw s = .inl (w, pl) := by unfold pLaw; simp only [e1, e2, e3, e4, e5]
            rw [hL, show zb 0 = some () from rfl]
            exact ⟨u7, 0, rfl, f7, rfl, t5, t6⟩
          | inr p5 =>
            rw [e5] at t4
            obtain ⟨rfl, t5⟩ := t4
            have hL : pLaw s = .inr (P, H, p5) := by unfold pLaw; simp only [e1, e2, e3, e4, e5]
            rw [hL, show zb 1 = some () by decide +kernel]
            refine ⟨u7, 1, rfl, f7, rfl, t5, ?_⟩
            have E : u7 5 = upd (u5 5) 2 (nI H) := by rw [t2.1 5 (by decide), vup_s]
            have E5 : u5 5 = upd (u2 5) 0 (nI P) := by rw [r2.1 5 (by decide), l2.1 5 (by decide), vup_s]
            have E2 : u2 5 = u 5 := f2.1 5 (by decide)
            rw [E, E5, E2]
            refine ⟨?_, ?_, ?_, ?_, ?_, ?_⟩
            · rw [upd_n (by decide), upd_s]; rfl
            · rw [upd_n (by decide), upd_n (by decide), hz 1 (by omega)]; rfl
            · rw [upd_s]; rfl
            · rw [upd_n (by decide), upd_n (by decide), hz 3 (by omega)]; rfl
            · rw [upd_n (by decide), upd_n (by decide), hz 4 (by omega), show (nwB P H).kd = (fun _ => 0) from rfl, enK_0]; rfl
            · rw [upd_n (by decide), upd_n (by decide), hz 5 (by omega), show arn (nwB P H) = 0 from rfl]; rfl
theorem readInto_ok (hN : 66 ≤ N) (h : TC u s) : ∃ u' b, m_X7_readInto N (CH σ u R) 2 5 = some (b, CH σ u' R) ∧ G25 u u' ∧ match pBoard s with
    | .inl (w, pl) => b = 0 ∧ u' 2 3 = nI w ∧ u' 2 2 = nI pl
    | .inr b' => b = 1 ∧ BR (u' 5) b' := by
  unfold m_X7_readInto
  rw [T_rv hN]
  simp only [Option.bind_some]
  rw [T_p hN (by omega)]
  simp only [Option.bind_some]
  obtain ⟨g, c1, c2⟩ := clear_ok (N := N) (σ := σ) (u := va_up u 2 (upd (u 2) 2 0)) (R := R) hN
  rw [c1]
  simp only [Option.bind_some]
  have f1 : G25 u (va_up (va_up u 2 (upd (u 2) 2 0)) 5 g) := (G2.up (by decide)).g25.tr G25.up5
  obtain ⟨u2, b2, g1, g2, g3⟩ := readLaw_ok (N := N) (σ := σ) (R := R) hN (h.g f1) (by rw [vup_n (by decide), vup_s, upd_s]; rfl) (by rw [vup_s]; exact c2)
  rw [g1]
  simp only [Option.bind_some]
  have f2 := f1.tr g2
  unfold pBoard
  cases e : pLaw s with
  | inl x =>
    obtain ⟨w, pl⟩ := x
    rw [e] at g3
    obtain ⟨rfl, g4, g5⟩ := g3
    simp only [if_true]
    exact ⟨u2, 0, rfl, f2, rfl, g4, g5⟩
  | inr x =>
    obtain ⟨P, H, p⟩ := x
    rw [e] at g3
    obtain ⟨rfl, g4, g5⟩ := g3
    obtain ⟨hP, _, _, hp⟩ := pLaw_inr e
    rw [if_neg (show ¬ (1 : Int32) = 0 by decide +kernel)]
    obtain ⟨z, b, u3, l1, l2, l3, l4⟩ := ri_loop (N := N) (σ := σ) (R := R) (H := H) (s := s) hN hP 7 0 fu p (nwB P H) u2 (VP.new P H) (by omega) (by decide) (h.g f2) g4 hp (Or.inr rfl) g5
    rw [nI_0] at l1
    rw [l1]
    exact ⟨u3, b, l2, f2.tr l3, l4⟩
theorem co_board (hN : 66 ≤ N) (h : RC u s) (hv : VA m s) : COp N u R (fun τ => m_X8_board N τ 0) (o_board s).1 (o_board s).2 := by
  intro σ
  show ∃ u', m_X8_board N (CH σ u R) 0 = _ ∧ _
  have hT : TC u s := ⟨h.2.2.1.1, hv.2.1.1, fun j hj => ⟨hv.2.1.2 j hj, h.2.2.1.2 j hj⟩⟩
  unfold m_X8_board o_board
  rw [C_rv hN, C_r1 hN, C_r3 hN]
  simp only [Option.bind_some]
  obtain ⟨u1, b, g1, g2, g3⟩ := readInto_ok (N := N) (σ := σ) (R := R) hN hT
  rw [g1]
  simp only [Option.bind_some]
  rw [C_r1 hN]
  simp only [Option.bind_some]
  rw [T_p hN (by omega)]
  simp only [Option.bind_some]
  obtain ⟨h1, h2, h3, h4, h5, ⟨h6, nx, h61, h62, h63⟩, h7, h8⟩ := h
  have U : ∀ i, i ≠ 2 → i ≠ 5 → u1 i = u i := g2.1
  cases e : pBoard s with
  | inl x =>
    obtain ⟨w, pl⟩ := x
    rw [e] at g3
    obtain ⟨rfl, g4, g5⟩ := g3
    rw [if_pos (show (0 : Int32) = 0 from rfl), C_r1 hN]
    simp only [Option.bind_some]
    rw [T_i hN (by omega), vup_s, upd_n (by decide), g4]
    simp only [Option.bind_some]
    rw [C_p10 hN, vup_n (show 0 ≠ 2 by decide)]
    simp only [Option.bind_some]
    rw [C_r1 hN]
    simp only [Option.bind_some]
    rw [T_i hN (by omega), vup_n (show 2 ≠ 0 by decide), vup_s, upd_n (by decide), g5]
    refine ⟨_, rfl, ?_⟩
    refine ⟨fun k hk => ?_, by rw [vup_s, upd_n (by decide), U 0 (by omega) (by omega)]; exact h2, ⟨by rw [vup_n (by omega), vup_s, upd_s]; rfl, fun j hj => absurd hj (Nat.not_lt_zero j)⟩, by rw [vup_s, upd_s]; rfl, by rw [vup_n (by omega), vup_n (by omega), U 4 (by omega) (by omega)]; exact h5, ⟨by rw [vup_n (by omega), vup_n (by omega), U 6 (by omega) (by omega)]; exact h6, nx, h61, by rw [vup_n (by omega), vup_n (by omega), U 6 (by omega) (by omega)]; exact h62, fun j hj => by rw [vup_n (by omega), vup_n (by omega), U _ (by omega) (by omega)]; exact h63 j hj⟩, fun k hk => by rw [vup_n (by omega), vup_n (by omega), U _ (by omega) (by omega)]; exact h7 k hk, ⟨by rw [vup_n (by omega), vup_n (by omega), U 33 (by omega) (by omega)]; exact h8.1, by rw [vup_n (by omega), vup_n (by omega), U 34 (by omega) (by omega)]; exact h8.2⟩⟩
    rw [vup_n (by omega), vup_n (by omega), vup_n (by omega), vup_n (by omega), U (35 + 2 * k) (by omega) (by omega), U (36 + 2 * k) (by omega) (by omega)]; exact h1 k hk
  | inr bd =>
    rw [e] at g3
    obtain ⟨rfl, g4⟩ := g3
    rw [if_neg (show ¬ (1 : Int32) = 0 by decide +kernel), C_r2 hN, C_r3 hN]
    simp only [Option.bind_some]
    rw [take_ok (CH_b hN b4) (CH_b hN b5) (by decide), CH_ub b4, vup_n (show 5 ≠ 2 by decide)]
    simp only [Option.bind_some]
    rw [C_r4 hN]
    simp only [Option.bind_some]
    unfold m_X0_forget
    rw [A_rv hN]
    simp only [Option.bind_some]
    rw [A_p2 hN]
    simp only [Option.bind_some]
    rw [C_r2 hN]
    simp only [Option.bind_some]
    rw [(CH_b hN b4).i1, vup_n (show 4 ≠ 6 by decide), vup_s, g4.2.1]
    refine ⟨_, rfl, ?_⟩
    refine ⟨fun k hk => ?_, by rw [vup_n (by omega), vup_n (by omega), vup_n (by omega), U 0 (by omega) (by omega)]; exact h2, ⟨by rw [vup_n (by omega), vup_n (by omega), vup_s, upd_s]; rfl, fun j hj => absurd hj (Nat.not_lt_zero j)⟩, by rw [vup_n (by omega), vup_n (by omega), vup_n (by omega), U 0 (by omega) (by omega)]; exact h4, by rw [vup_n (by omega), vup_s]; exact g4, ⟨by rw [vup_s, upd_s]; rfl, nx, h61, by rw [vup_s, upd_n (by decide), vup_n (by omega), vup_n (by omega), U 6 (by omega) (by omega)]; exact h62, fun j hj => absurd hj (Nat.not_lt_zero j)⟩, fun k hk => by rw [vup_n (by omega), vup_n (by omega), vup_n (by omega), U _ (by omega) (by omega)]; exact h7 k hk, ⟨by rw [vup_n (by omega), vup_n (by omega), vup_n (by omega), U 33 (by omega) (by omega)]; exact h8.1, by rw [vup_n (by omega), vup_n (by omega), vup_n (by omega), U 34 (by omega) (by omega)]; exact h8.2⟩⟩
    rw [vup_n (by omega), vup_n (by omega), vup_n (by omega), vup_n (by omega), vup_n (by omega), vup_n (by omega), U (35 + 2 * k) (by omega) (by omega), U (36 + 2 * k) (by omega) (by omega)]; exact h1 k hk
end CR2
