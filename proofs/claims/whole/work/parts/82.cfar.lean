/-! the class: least, tower, world, ring -/
/-- what a call of the class does that may make cells -/
def COpA (N m : Nat) (u : Nat → Nat → Int32) (R : CR) (σ : Hp) (r : Option (Int32 × Nat × Hp)) (ans : Int32) (s' : AS) : Prop := ∃ u' σ' R' N', r = some (ans, N', CH σ' u' R') ∧ RC u' s' ∧ DC m N' σ' R' ∧ ∀ i, 53 ≤ i → i < 66 → σ' i = σ i
def COpJ (N m : Nat) (u : Nat → Nat → Int32) (R : CR) (σ : Hp) (r : Option (Int64 × Nat × Hp)) (ans : Int64) (s' : AS) : Prop := ∃ u' σ' R' N', r = some (ans, N', CH σ' u' R') ∧ RC u' s' ∧ DC m N' σ' R' ∧ ∀ i, 53 ≤ i → i < 66 → σ' i = σ i
theorem DC.lt {m N : Nat} {σ : Hp} {R : CR} (h : DC m N σ R) : N ≤ 78 := by
  have := h.2.1
  split at this <;> split at this <;> split at this <;> omega
section SX
variable {N m : Nat} {σ : Hp} {u : Nat → Nat → Int32} {R : CR} {bd : AB} {s : AS}
theorem DC.HW (h : DC m N σ R) : HW N (CH σ u R) := CH_HW h.1 h.2.2.1 h.2.2.2.1
theorem searched_ok (h : DC m N σ R) (hB : BR (u 4) bd) (hV : VB m bd) (h0 : bd ≠ noB) (hm : m < 2 ^ 30) : ∃ p N' σ' R' b, m_X8_searched N (CH σ u R) 0 = some (p, N', CH σ' u R') ∧ DC m N' σ' R' ∧ SB m N' σ' p b ∧ sam b bd ∧ 66 ≤ p ∧ ∀ i, 53 ≤ i → i < 66 → σ' i = σ i := by
  have h78 := h.lt
  obtain ⟨hN, hNb, hR, hok, hD, hS, hL, j1, j2, j3⟩ := h
  have hP : bd.P ≠ 0 := fun e => h0 ((noB_P hV).mp e)
  have hP4 := hV.d4.2.2.1
  unfold m_X8_searched
  rw [C_rv hN, C_q8 hN]
  simp only [Option.bind_some]
  by_cases c : R.2.1 = 0
  · rw [if_pos c]
    unfold cQ
    simp only []
    obtain ⟨σ1, k1, k2, k3, k4⟩ := smake_ok (u := u) hN (by omega) hR hok
    rw [k1]
    simp only [Option.bind_some]
    have r8 : gR (N + 6) (CH σ1 u (R.1, N, R.2.2)) 0 8 8 = some N := C_r8 (R := (R.1, N, R.2.2)) (by omega) (by show N ≠ 0; omega)
    rw [r8]
    simp only [Option.bind_some]
    have hSE : SE (N + 6) (CH σ1 u (R.1, N, R.2.2)) N (fun _ => 0) (fun _ => 0) (fun _ => 0) (fun _ => 0) (fun _ => 0) (fun _ => 0) := k2.fr (Nat.le_refl _) (fun i a _ => CH_ge (by omega))
    rw [gR_of (x := N + 1) (by omega) hSE.2.1 rfl, C_r2 (by omega)]
    simp only [Option.bind_some]
    rw [hasFut_ok (c := N + 1) ⟨by omega, hSE.2.2.1⟩ (CH_b (by omega) b4), decide_eq_false (fun e => by
      have e0 := e.1.1
      rw [hB.1] at e0
      have := (nI_eq (show 0 < 2 ^ 31 by omega) (by omega)).mp e0
      omega)]
    simp only [Option.bind_some]
    rw [if_pos (show bI false = 0 from rfl)]
    have hD1 : DN m (N + 6) σ1 R.1 := hD.fr (by omega) (fun hne i a b => k4 i (by rcases hD with e | ⟨_, _, _, _, _, e, _⟩; exact absurd e hne; have := e.1; omega))
    obtain ⟨n, N', σ', g1, g2, g3, g4, g5, g6, g7, g8⟩ := go_ok (u := u) (R := (R.1, N, R.2.2)) (N := N + 6) (by omega) (by omega) (by show R.1 < N + 6 ∧ N < N + 6 ∧ R.2.2 < N + 6; omega) k3 hD1 (by show 66 ≤ N; exact hN) k2 (by show R.1 = 0 ∨ R.1 + 3 ≤ N ∨ N + 6 ≤ R.1; rcases hD with e | ⟨_, _, _, _, _, e, _⟩; exact Or.inl e; have := e.1; omega) hB hV h0 hm
    rw [r8, C_r2 (by omega)] at g1
    simp only [Option.bind_some] at g1
    have g6 : (n = R.1 ∧ N' = N + 6) ∨ (R.1 = 0 ∧ n = N + 6 ∧ N' = N + 6 + 3) := g6
    have g7 : n + 3 ≤ N ∨ N + 6 ≤ n := g7
    have g8 : ∀ i, (i < n ∨ n + 3 ≤ i) → (i < N ∨ N + 6 ≤ i) → 53 ≤ i → σ' i = σ1 i := g8
    refine ⟨N, N', σ', (n, N, R.2.2), bd, g1, ⟨by omega, ?_, ?_, g4, g2, Or.inr ⟨hN, bd, g3⟩, ?_, ?_, ?_, ?_⟩, g3, ⟨rfl, rfl, rfl, rfl, rfl⟩, hN, fun i a b => by rw [g8 i (by omega) (by omega) a, k4 i (by omega)]⟩
    · show N' ≤ 66 + (if n = 0 then 0 else 3) + (if N = 0 then 0 else 6) + (if R.2.2 = 0 then 0 else 3)
      rw [if_neg (show ¬ n = 0 by omega), if_neg (show ¬ N = 0 by omega)]
      rw [c, if_pos rfl] at hNb
      rcases g6 with ⟨e1, e2⟩ | ⟨e1, e2, e3⟩
      · rw [if_neg (show ¬ R.1 = 0 by omega)] at hNb; omega
      · rw [if_pos e1] at hNb; omega
    · show n < N' ∧ N < N' ∧ R.2.2 < N'
      omega
    · show DL N' σ' R.2.2 n
      refine hL.fr (by omega) (fun hne => ?_) (fun hne i a b => ?_)
      · rcases hL with e | ⟨_, _, e, _⟩
        · exact absurd e hne
        · omega
      · rcases hL with e | ⟨l1, l2, l3, _⟩
        · exact absurd e hne
        · rw [g8 i (by omega) (by omega) (by omega), k4 i (by omega)]
    · show n = 0 ∨ N = 0 ∨ n + 3 ≤ N ∨ N + 6 ≤ n
      omega
    · show n = 0 ∨ R.2.2 = 0 ∨ n + 3 ≤ R.2.2 ∨ R.2.2 + 3 ≤ n
      rcases hL with e | ⟨l1, l2, l3, _⟩
      · exact Or.inr (Or.inl e)
      · omega
    · show N = 0 ∨ R.2.2 = 0 ∨ N + 6 ≤ R.2.2 ∨ R.2.2 + 3 ≤ N
      rcases hL with e | ⟨l1, l2, l3, _⟩
      · exact Or.inr (Or.inl e)
      · omega
  · rw [if_neg c]
    unfold cQ
    simp only [Option.bind_some]
    rcases hS with e | ⟨hp, b, hSB⟩
    · exact absurd e c
    have hSB' := hSB
    obtain ⟨go, f, q, st, lm, ah, tn, S, s1, s2, s3, s4, s5⟩ := hSB
    have hSE : SE N (CH σ u R) R.2.1 go f q st lm ah := s1.fr (Nat.le_refl _) (fun i a _ => CH_ge (by omega))
    rw [C_r8 hN c]
    simp only [Option.bind_some]
    rw [gR_of (x := R.2.1 + 1) (by have := s1.1; omega) hSE.2.1 rfl, C_r2 hN]
    simp only [Option.bind_some]
    rw [hasFut_ok (c := R.2.1 + 1) ⟨by have := s1.1; omega, hSE.2.2.1⟩ (CH_b (by omega) b4)]
    simp only [Option.bind_some]
    by_cases e : (go 0 = u 4 0 ∧ go 1 = u 4 1 ∧ go 2 = u 4 2 ∧ go 4 = u 4 4) ∧ go 5 = u 4 5 ∧ go 3 &&& 1 = u 4 3 &&& 1
    · rw [decide_eq_true e, if_neg (show ¬ bI true = 0 by decide +kernel)]
      obtain ⟨t1, t2, t3, t4⟩ := s2.same hB s3 hV e.1
      have a1 := arn_lt s3
      have a2 := arn_lt hV
      have ea : arn b = arn bd := by
        have := e.2.1
        rw [s2.2.2.2.2.2, hB.2.2.2.2.2] at this
        exact (nI_eq (by omega) (by omega)).mp this
      have eM : b.M % 2 = bd.M % 2 := by
        have := e.2.2
        have m1 := s3.d4.2.2.2.2.1
        have m2 := hV.d4.2.2.2.2.1
        rw [s2.2.2.2.1, hB.2.2.2.1, show nI b.M &&& 1 = nI (b.M % 2) from pk_andN (k := 1) (by omega) (by decide +kernel), show nI bd.M &&& 1 = nI (bd.M % 2) from pk_andN (k := 1) (by omega) (by decide +kernel)] at this
        exact (nI_eq (by omega) (by omega)).mp this
      exact ⟨R.2.1, N, σ, R, b, rfl, ⟨hN, hNb, hR, hok, hD, Or.inr ⟨hp, b, hSB'⟩, hL, j1, j2, j3⟩, hSB', ⟨t1, t2, t3, t4, by rw [stx_eq, stx_eq, ea, eM]⟩, hp, fun _ _ _ => rfl⟩
    · rw [decide_eq_false e, if_pos (show bI false = 0 from rfl)]
      obtain ⟨n, N', σ', g1, g2, g3, g4, g5, g6, g7, g8⟩ := go_ok (u := u) hN (by omega) hR hok hD hp s1 (by omega) hB hV h0 hm
      have hs1 := s1.1
      rw [C_r8 hN c, C_r2 hN] at g1
      simp only [Option.bind_some] at g1
      refine ⟨R.2.1, N', σ', (n, R.2), bd, g1, ⟨by omega, ?_, ?_, g4, g2, Or.inr ⟨hp, bd, g3⟩, ?_, ?_, ?_, ?_⟩, g3, ⟨rfl, rfl, rfl, rfl, rfl⟩, hp, fun i a b => g8 i (by omega) (by omega) a⟩
      · show N' ≤ 66 + (if n = 0 then 0 else 3) + (if R.2.1 = 0 then 0 else 6) + (if R.2.2 = 0 then 0 else 3)
        rw [if_neg (show ¬ n = 0 by omega)]
        rcases g6 with ⟨e1, e2⟩ | ⟨e1, e2, e3⟩
        · rw [if_neg (show ¬ R.1 = 0 by omega)] at hNb; omega
        · rw [if_pos e1] at hNb; omega
      · show n < N' ∧ R.2.1 < N' ∧ R.2.2 < N'
        omega
      · show DL N' σ' R.2.2 n
        refine hL.fr (by omega) (fun hne => ?_) (fun hne i a b => ?_)
        · rcases hL with e | ⟨_, _, e, _⟩
          · exact absurd e hne
          · omega
        · rcases hL with e | ⟨l1, l2, l3, _⟩
          · exact absurd e hne
          · exact g8 i (by omega) (by omega) (by omega)
      · show n = 0 ∨ R.2.1 = 0 ∨ n + 3 ≤ R.2.1 ∨ R.2.1 + 6 ≤ n
        omega
      · show n = 0 ∨ R.2.2 = 0 ∨ n + 3 ≤ R.2.2 ∨ R.2.2 + 3 ≤ n
        rcases hL with e | ⟨l1, l2, l3, _⟩
        · exact Or.inr (Or.inl e)
        · omega
      · show R.2.1 = 0 ∨ R.2.2 = 0 ∨ R.2.1 + 6 ≤ R.2.2 ∨ R.2.2 + 3 ≤ R.2.1
        exact j3
/-- items tell an arrangement -/
theorem arr_loop (hN : 66 ≤ N) (h : RC u s) (hv : VA m s) {q i0 : Nat} (hq : q < 8) (hl : s.lane q ≠ -1) (hi : i0 + s.bd.D ≤ s.size q) : ∀ (r t d : Nat), d + r = s.bd.D → r < t → tOK s.bd.P (fun d => s.items q (i0 + d)) d = true → ∃ z, L_X2_arrangedBy_5 N (CH σ u R) 4 (35 + 2 * q) (nI i0) t (nI (encP (fun d => nt (s.items q (i0 + d))) d)) (nI d) = some z ∧ cS z (fun w => some w) (fun q => some q) = some (tldI s.bd.P (fun d => s.items q (i0 + d)) s.bd.D) := by
  have hB := h.2.2.2.2.1
  have hV := hv.2.2.1
  have hs := (hv.1 q hq).2
  obtain ⟨_, h6, hP, _⟩ := hV.d4
  intro r
  induction r with
  | zero =>
    intro t d hd ht hT
    obtain ⟨t, rfl⟩ : ∃ k, t = k + 1 := ⟨t - 1, by omega⟩
    obtain rfl : d = s.bd.D := by omega
    rw [L_X2_arrangedBy_5.eq_2, (b4h hN).i1, hB.2.1]
    simp only [Option.bind_some]
    rw [if_pos (nI_le (Nat.le_refl _) (by omega))]
    refine ⟨_, rfl, ?_⟩
    unfold tldI
    rw [if_pos hT]; rfl
  | succ r ih =>
    intro t d hd ht hT
    obtain ⟨t, rfl⟩ : ∃ k, t = k + 1 := ⟨t - 1, by omega⟩
    rw [L_X2_arrangedBy_5.eq_2, (b4h hN).i1, hB.2.1]
    simp only [Option.bind_some]
    rw [if_neg (nI_ge (by omega) (by omega)), nI_add, itemAt_ok hN h hq hl (by omega) hs]
    simp only [Option.bind_some]
    rw [hasPeg_ok (b4h hN) hB.1]
    simp only [Option.bind_some, ite10]
    by_cases c : 0 ≤ s.items q (i0 + d) ∧ s.items q (i0 + d) < nI s.bd.P
    · have hT2 : tOK s.bd.P (fun d => s.items q (i0 + d)) (d + 1) = true := by rw [tOK, hT, decide_eq_true c]; rfl
      rw [if_pos c]
      obtain ⟨x, hx, e⟩ := ofR (by omega) c
      have hlt := tldN_lt hP hT
      unfold tldN at hlt
      have h46 := pow4_6 (show d ≤ 5 + 1 by omega)
      have h45 : 4 ^ d ≤ 1024 := Nat.pow_le_pow_right (n := 4) (by omega) (show d ≤ 5 by omega)
      have hor : encP (fun d => nt (s.items q (i0 + d))) d ||| x * 4 ^ d = encP (fun d => nt (s.items q (i0 + d))) (d + 1) := by
        have e3 : encP (fun d => nt (s.items q (i0 + d))) (d + 1) = encP (fun d => nt (s.items q (i0 + d))) d + x * 4 ^ d := by
          show encP (fun d => nt (s.items q (i0 + d))) d + nt (s.items q (i0 + d)) * 4 ^ d = _
          rw [e, nt_nI (by omega)]
        rw [pow4] at hlt
        rw [e3, Nat.or_comm, Nat.mul_comm x (4 ^ d), pow4, ← Nat.two_pow_add_eq_or_of_lt hlt]
        exact Nat.add_comm _ _
      rw [e, show (2 : Int32) = nI 2 from rfl, pk_mul, ni_shl (by omega) (by
        rw [← pow4]
        have : x * 4 ^ d ≤ 3 * 4 ^ d := Nat.mul_le_mul_right _ (by omega)
        omega), ← pow4, ni_or, lt, nI_1, hor]
      exact ih t (d + 1) (by omega) (by omega) hT2
    · rw [if_neg c]
      refine ⟨_, rfl, ?_⟩
      unfold tldI
      rw [if_neg (fun e => c ((tOK_iff _).mp e d (by omega)))]; rfl
theorem arr_ok (hN : 66 ≤ N) (h : RC u s) (hv : VA m s) {q i0 : Nat} (hq : q < 8) (hl : s.lane q ≠ -1) (hi : i0 + s.bd.D ≤ s.size q) : m_X2_arrangedBy N (CH σ u R) 4 (35 + 2 * q) (nI i0) = some (tldI s.bd.P (fun d => s.items q (i0 + d)) s.bd.D) := by
  have h6 := hv.2.2.1.d4.2.1
  unfold m_X2_arrangedBy
  rw [(b4h hN).rv]
  simp only [Option.bind_some]
  obtain ⟨z, z1, z2⟩ := arr_loop (σ := σ) (R := R) hN h hv hq hl hi s.bd.D fu 0 (by omega) (by show _ < 20000; omega) rfl
  rw [show encP (fun d => nt (s.items q (i0 + d))) 0 = 0 from rfl, nI_0] at z1
  rw [z1]
  exact z2
end SX
