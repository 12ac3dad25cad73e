/-! the class: searched (second part) -/
section GO
variable {N m : Nat} {σ : Hp} {u : Nat → Nat → Int32} {R : CR} {bd : AB}
theorem C_r8 (hN : 66 ≤ N) (h : R.2.1 ≠ 0) : gR N (CH σ u R) 0 8 8 = some R.2.1 := gR_of (fs := [.ref 1, .ref 2, .ref 4, .ref 5, .ref 6, .ref 32, .ref 33, rfc R.1, rfc R.2.1, rfc R.2.2, .int (u 0 10), .int (u 0 11)]) (by omega) (CH_lt (by omega)) (by unfold rfc; rw [if_neg h]; rfl)
theorem C_r9 (hN : 66 ≤ N) (h : R.2.2 ≠ 0) : gR N (CH σ u R) 0 8 9 = some R.2.2 := gR_of (fs := [.ref 1, .ref 2, .ref 4, .ref 5, .ref 6, .ref 32, .ref 33, rfc R.1, rfc R.2.1, rfc R.2.2, .int (u 0 10), .int (u 0 11)]) (by omega) (CH_lt (by omega)) (by unfold rfc; rw [if_neg h]; rfl)
theorem DN.fr {N N' n : Nat} {τ τ' : Hp} (h : DN m N τ n) (hN : N ≤ N') (e : n ≠ 0 → ∀ i, n ≤ i → i ≤ n + 2 → τ' i = τ i) : DN m N' τ' n := by
  rcases h with h | ⟨h1, b, tn, gl, kn, h2, h3⟩
  · exact Or.inl h
  · exact Or.inr ⟨h1, b, tn, gl, kn, h2.fr hN (e (by omega)), h3⟩
/-- begin, look, spread -/
theorem go_ok (hN : 66 ≤ N) (hN2 : N < 800000) (hR : R.1 < N ∧ R.2.1 < N ∧ R.2.2 < N) (hok : OK N σ) (hD : DN m N σ R.1) (hp : 66 ≤ R.2.1) {go f q st lm ah : Nat → Int32} (hS : SE N σ R.2.1 go f q st lm ah) (hdj : R.1 = 0 ∨ R.1 + 3 ≤ R.2.1 ∨ R.2.1 + 6 ≤ R.1) (hB : BR (u 4) bd) (hV : VB m bd) (h0 : bd ≠ noB) (hm : m < 2 ^ 30) : ∃ n N' σ', ((gR N (CH σ u R) 0 8 8).bind fun x9 => (gR N (CH σ u R) 0 8 2).bind fun x10 => (m_X6_begin N (CH σ u R) x9 x10).bind fun r11 => (gR N r11 0 8 8).bind fun x12 => (al N r11 [0, x12] (0 + 6 + 3) (0 + 32785 + 8201) 9 40986).bind fun _ => (m_X8_netNow N r11 0).bind fun r13 => (nb r13.2.1).bind fun _ => (m_X6_spread r13.2.1 r13.2.2 x12 r13.1).bind fun r16 => (gR r13.2.1 r16 0 8 8).bind fun x17 => some (x17, r13.2.1, r16)) = some (R.2.1, N', CH σ' u (n, R.2)) ∧ DN m N' σ' n ∧ SB m N' σ' R.2.1 bd ∧ OK N' σ' ∧ 66 ≤ n ∧ ((n = R.1 ∧ N' = N) ∨ (R.1 = 0 ∧ n = N ∧ N' = N + 3)) ∧ (n + 3 ≤ R.2.1 ∨ R.2.1 + 6 ≤ n) ∧ ∀ i, (i < n ∨ n + 3 ≤ i) → (i < R.2.1 ∨ R.2.1 + 6 ≤ i) → 53 ≤ i → σ' i = σ i := by
  have hpN := hS.1
  have ha := arn_lt hV
  obtain ⟨_, h6, _, _, _, hkd⟩ := hV.d4
  rw [C_r8 hN (by omega), C_r2 hN]
  simp only [Option.bind_some]
  have hSE : SE N (CH σ u R) R.2.1 go f q st lm ah := hS.fr (Nat.le_refl _) (fun i h1 _ => CH_ge (by omega))
  obtain ⟨τ1, f1, st1, e1, e2, e3, e4, e5⟩ := sbegin_ok hSE (CH_b (u := u) (σ := σ) (R := R) hN b4) (Or.inl (by omega))
  rw [e1]
  simp only [Option.bind_some]
  have hτ1 : τ1 = CH τ1 u R := CH_of (σ := σ) (fun i hi => e5 i (by omega))
  have fr1 : ∀ i, 53 ≤ i → (i < R.2.1 ∨ R.2.1 + 6 ≤ i) → τ1 i = σ i := fun i a b => by rw [e5 i b, CH_ge a]
  have ok1 : OK N τ1 := fun i a b => by
    by_cases c : i < R.2.1 ∨ R.2.1 + 6 ≤ i
    · rw [fr1 i a c]; exact hok i a b
    · obtain ⟨g1, g2, g3, g4, g5, g6, g7⟩ := e2
      rcases (show i = R.2.1 ∨ i = R.2.1 + 1 ∨ i = R.2.1 + 2 ∨ i = R.2.1 + 3 ∨ i = R.2.1 + 4 ∨ i = R.2.1 + 5 by omega) with e | e | e | e | e | e
      · rw [e, g2]; exact okE_s g1
      · rw [e, g3]; exact okE_b
      · rw [e, g4]; exact okE_i
      · rw [e, g5]; exact okE_i
      · rw [e, g6]; exact okE_i
      · rw [e, g7]; exact okE_i
  have hD1 : DN m N τ1 R.1 := by
    rcases hD with h | ⟨h1, hh⟩
    · exact Or.inl h
    · have hD' : DN m N σ R.1 := Or.inr ⟨h1, hh⟩
      exact hD'.fr (Nat.le_refl _) (fun _ i a b => fr1 i (by omega) (by omega))
  have g8 : gR N τ1 0 8 8 = some R.2.1 := by rw [hτ1]; exact C_r8 hN (by omega)
  have hw : HW N τ1 := by rw [hτ1]; exact CH_HW hN hR ok1
  rw [g8]
  simp only [Option.bind_some]
  rw [al_ok hw (fun x hx => by simp at hx; omega) (by omega) (by omega) (by omega)]
  simp only [Option.bind_some]
  obtain ⟨n, N', σ2, kn, k1, k2, k3, k4, k5, k6, k7⟩ := netNow_ok (u := u) (R := R) hN (by omega) hR ok1 hD1 hB hV h0
  have hk1 : m_X8_netNow N τ1 0 = some (n, N', CH σ2 u (n, R.2)) := by rw [hτ1]; exact k1
  rw [hk1]
  simp only [Option.bind_some]
  rw [nb_ok (by omega)]
  simp only [Option.bind_some]
  have hdj2 : n + 3 ≤ R.2.1 ∨ R.2.1 + 6 ≤ n := by omega
  have hNN : N ≤ N' := by omega
  -- the search's cells behind the net
  have e2' : SE N' σ2 R.2.1 (u 4) f1 q st1 lm ah := e2.fr hNN (fun i a b => k6 i (by omega) (by omega) (by omega) (by omega))
  obtain ⟨g1, g2, g3, g4, g5, g6, g7⟩ := e2'
  have cg : ∀ i, 53 ≤ i → CH σ2 u (n, R.2) i = σ2 i := fun i hi => CH_ge hi
  have hself : HS (CH σ2 u (n, R.2)) n R.2.1 kn f1 q st1 lm ah = CH σ2 u (n, R.2) := HS_self (by rw [cg _ (by omega)]; exact k2.2.2.2) (by rw [cg _ (by omega)]; exact g2) (by rw [cg _ (by omega)]; exact g4) (by rw [cg _ (by omega)]; exact g5) (by rw [cg _ (by omega)]; exact g6) (by rw [cg _ (by omega)]; exact g7)
  have hCX : CX N' (CH σ2 u (n, R.2)) n R.2.1 (frB bd.kd bd.D) (u 4) (u 4) bd.P bd.H bd.D bd.kd (stx bd % 4096) := ⟨hdj2, k2.1, g1, by rw [cg _ (by omega)]; exact k2.2.1, by rw [cg _ (by omega)]; exact k2.2.2.1, hB.bl hV, by rw [cg _ (by omega)]; exact g3, by rw [stx_mod hV]; exact hB.2.2.2.2.2, Nat.mod_lt _ (by omega)⟩
  have hNE2 : NE N' (CH σ2 u (n, R.2)) n (frB bd.kd bd.D) (u 4) kn := k2.fr (Nat.le_refl _) (fun i a _ => cg i (by omega))
  have hst : m_X4_start N' (HS (CH σ2 u (n, R.2)) n R.2.1 kn f1 q st1 lm ah) n = some (nI (cpi (frB bd.kd bd.D) (stx bd))) := by rw [hself]; exact start_ok hNE2 hB hV hm
  have hsx := stx_lt hV
  have hcp : cpi (frB bd.kd bd.D) (stx bd) < 8192 := by
    unfold cpi
    split
    · exact hsx
    · omega
  have hCV : CV (frB bd.kd bd.D) bd.P bd.D (cpi (frB bd.kd bd.D) (stx bd)) := by
    have hv := VX_stx hV h0
    unfold cpi
    cases e : frB bd.kd bd.D with
    | true => exact ⟨hv, fun e => absurd e (by decide)⟩
    | false => exact ⟨VX_mod h6 hv, fun _ => Nat.mod_lt _ (by omega)⟩
  obtain ⟨kn3, f3, q3, st3, lm3, ah3, S, s1, s2, s3, s4, s5, s6⟩ := spread_ok hCX k3 hcp hCV hst e3 e4
  rw [hself] at s1
  rw [s1]
  simp only [Option.bind_some]
  have hτ3 : HS (CH σ2 u (n, R.2)) n R.2.1 kn3 f3 q3 st3 lm3 ah3 = CH (HS (CH σ2 u (n, R.2)) n R.2.1 kn3 f3 q3 st3 lm3 ah3) u (n, R.2) := CH_of (σ := σ2) (fun i hi => HS_o (by omega))
  have g83 : gR N' (HS (CH σ2 u (n, R.2)) n R.2.1 kn3 f3 q3 st3 lm3 ah3) 0 8 8 = some R.2.1 := by rw [hτ3]; exact C_r8 (R := (n, R.2)) (by omega) (by show R.2.1 ≠ 0; omega)
  rw [g83]
  simp only [Option.bind_some]
  refine ⟨n, N', _, by rw [← hτ3], ?_, ?_, ?_, k4, k5, hdj2, ?_⟩
  · exact Or.inr ⟨k4, bd, frB bd.kd bd.D, u 4, kn3, ⟨k2.1, by rw [HS_o (by omega), cg _ (by omega)]; exact k2.2.1, by rw [HS_o (by omega), cg _ (by omega)]; exact k2.2.2.1, HS_kn⟩, hB, hV, s4, rfl⟩
  · exact ⟨u 4, f3, q3, st3, lm3, ah3, frB bd.kd bd.D, S, ⟨g1, HS_p hdj2, by rw [HS_o (by omega), cg _ (by omega)]; exact g3, HS_q hdj2, HS_st hdj2, HS_lm hdj2, HS_ah hdj2⟩, hB, hV, h0, frB_frl, s2, s3, s5, s6⟩
  · intro i a b
    by_cases c1 : i = n + 2
    · rw [c1, HS_kn]; exact okE_i
    by_cases c2 : i = R.2.1
    · rw [c2, HS_p hdj2]; exact okE_s g1
    by_cases c3 : i = R.2.1 + 2
    · rw [c3, HS_q hdj2]; exact okE_i
    by_cases c4 : i = R.2.1 + 3
    · rw [c4, HS_st hdj2]; exact okE_i
    by_cases c5 : i = R.2.1 + 4
    · rw [c5, HS_lm hdj2]; exact okE_i
    by_cases c6 : i = R.2.1 + 5
    · rw [c6, HS_ah hdj2]; exact okE_i
    rw [HS_o ⟨c1, c2, c3, c4, c5, c6⟩, cg i a]; exact k7 i a b
  · intro i a b h53
    rw [HS_o (by omega), cg i h53, k6 i (by omega) (by omega) (by omega) h53, fr1 i h53 b]
end GO
/-- what depends on law and state alone -/
def sam (b b' : AB) : Prop := b.P = b'.P ∧ b.H = b'.H ∧ b.D = b'.D ∧ b.kd = b'.kd ∧ stx b = stx b'
theorem sam_Lx {b b' : AB} (h : sam b b') : Lx b = Lx b' := by
  obtain ⟨h1, h2, h3, h4, h5⟩ := h
  funext x
  unfold Lx
  rw [h1, h2, h3, h4, h5]
theorem sam_lst {b b' : AB} (h : sam b b') (g : Nat) (k : Int32) : o_lst b g k = o_lst b' g k := by
  obtain ⟨h1, h2, h3, h4, h5⟩ := h
  unfold o_lst
  rw [h1, h2, h3, h4, h5]
theorem sam_rg {b b' : AB} (h : sam b b') : rgN b = rgN b' := by
  obtain ⟨h1, h2, h3, h4, h5⟩ := h
  unfold rgN
  rw [h1, h2, h3, h4, h5]
theorem sam_w {b b' : AB} (h : sam b b') : wN b 4096 = wN b' 4096 ∧ wD b 4096 = wD b' 4096 ∧ mx1 b 4096 = mx1 b' 4096 ∧ faR b 4096 = faR b' 4096 := by
  have hL := sam_Lx h
  obtain ⟨h1, h2, h3, h4, h5⟩ := h
  have hf : fsS b = fsS b' := by
    funext x
    unfold fsS
    rw [hL, h5]
  refine ⟨?_, ?_, ?_⟩
  · unfold wN; rw [hL]
  · unfold wD; rw [hL, hf, h1, h2, h3, h4]
  · have key : ∀ n, mx1 b n = mx1 b' n ∧ faR b n = faR b' n := by
      intro n
      induction n with
      | zero => exact ⟨rfl, rfl⟩
      | succ n ih => rw [mx1, mx1, faR, faR, hL, ih.1, ih.2]; exact ⟨rfl, rfl⟩
    exact key 4096
