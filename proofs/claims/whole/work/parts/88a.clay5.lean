/-! the class: layered -/
theorem okE_lo {N a c n : Nat} {od : Int32} (ha : a < N) (hc : c < N) (hn : n < N) : okE N (lObj a c n od) := okE_o (fun v hv => by
  rcases List.mem_cons.mp hv with rfl | hv
  · exact ha
  rcases List.mem_cons.mp hv with rfl | hv
  · exact hc
  rcases List.mem_cons.mp hv with rfl | hv
  · exact hn
  rcases List.mem_cons.mp hv with rfl | hv
  · exact trivial
  exact absurd hv List.not_mem_nil)
section LL
variable {N m : Nat} {σ : Hp} {u : Nat → Nat → Int32} {R : CR} {bd : AB}
/-- the net is looked at: what is held then -/
theorem netNow_dc (hd : DC m N σ R) (hB : BR (u 4) bd) (hV : VB m bd) (h0 : bd ≠ noB) : ∃ n N' σ' kn, m_X8_netNow N (CH σ u R) 0 = some (n, N', CH σ' u (n, R.2)) ∧ NE N' σ' n (frB bd.kd bd.D) (u 4) kn ∧ KN bd.P bd.H bd.D bd.kd kn ∧ 66 ≤ n ∧ DC m N' σ' (n, R.2) ∧ ∀ i, 53 ≤ i → i < 66 → σ' i = σ i := by
  have h78 := hd.lt
  obtain ⟨hN, hNb, hR, hok, hD, hS, hL, j1, j2, j3⟩ := hd
  obtain ⟨n, N', σ', kn, k1, k2, k3, k4, k5, k6, k7⟩ := netNow_ok (u := u) hN (by omega) hR hok hD hB hV h0
  have k2' := k2.1
  refine ⟨n, N', σ', kn, k1, k2, k3, k4, ⟨by omega, ?_, ?_, k7, Or.inr ⟨k4, bd, _, u 4, kn, k2, hB, hV, k3, rfl⟩, ?_, ?_, ?_, ?_, j3⟩, fun i a b => k6 i (by omega) (by omega) (by omega) a⟩
  · show N' ≤ 66 + (if n = 0 then 0 else 3) + (if R.2.1 = 0 then 0 else 6) + (if R.2.2 = 0 then 0 else 3)
    rw [if_neg (show ¬ n = 0 by omega)]
    rcases k5 with ⟨e1, e2⟩ | ⟨e1, e2, e3⟩
    · rw [if_neg (show ¬ R.1 = 0 by omega)] at hNb; omega
    · rw [if_pos e1] at hNb; omega
  · show n < N' ∧ R.2.1 < N' ∧ R.2.2 < N'
    omega
  · show DS m N' σ' R.2.1
    rcases hS with e | ⟨p1, b, p2⟩
    · exact Or.inl e
    · have := DC.sp p2
      exact Or.inr ⟨p1, b, p2.fr (by omega) (fun i a b => k6 i (by omega) (by omega) (by omega) (by omega))⟩
  · show DL N' σ' R.2.2 n
    rcases hL with e | ⟨l1, l2, l3, l4⟩
    · exact Or.inl e
    · have hL' : DL N σ R.2.2 R.1 := Or.inr ⟨l1, l2, l3, l4⟩
      exact hL'.fr (by omega) (fun _ => by omega) (fun _ i a b => k6 i (by omega) (by omega) (by omega) (by omega))
  · show n = 0 ∨ R.2.1 = 0 ∨ n + 3 ≤ R.2.1 ∨ R.2.1 + 6 ≤ n
    rcases hS with e | ⟨p1, b, p2⟩
    · exact Or.inr (Or.inl e)
    · have := DC.sp p2
      omega
  · show n = 0 ∨ R.2.2 = 0 ∨ n + 3 ≤ R.2.2 ∨ R.2.2 + 3 ≤ n
    rcases hL with e | ⟨l1, l2, l3, l4⟩
    · exact Or.inr (Or.inl e)
    · omega
/-- layers are at work over a heap -/
theorem DC_LH (hd : DC m N σ R) {n l a c : Nat} {kn : Nat → Int32} {W C : Nat → Int64} {od : Int32} (hn : R.1 = n) (hl : R.2.2 = l) (hl6 : 66 ≤ l) (hn6 : 66 ≤ n) (hX : LYX N (CH σ u R) n l (frB bd.kd bd.D) (u 4) bd.P bd.H bd.D bd.kd a c) (hB : BR (u 4) bd) (hV : VB m bd) (hK : KN bd.P bd.H bd.D bd.kd kn) : LH (CH σ u R) n l kn a c W C od = CH (LH (CH σ u R) n l kn a c W C od) u R ∧ DC m N (LH (CH σ u R) n l kn a c W C od) R ∧ ∀ i, 53 ≤ i → i < 66 → LH (CH σ u R) n l kn a c W C od i = σ i := by
  have hNE := LH_ne hX (kn := kn) (W := W) (C := C) (od := od)
  have eL := LH_l hX (kn := kn) (W := W) (C := C) (od := od)
  have eA := LH_a hX (kn := kn) (W := W) (C := C) (od := od)
  have eC := LH_c hX (kn := kn) (W := W) (C := C) (od := od)
  have fr : ∀ i, 53 ≤ i → i ≠ n + 2 ∧ i ≠ l ∧ i ≠ a ∧ i ≠ c → LH (CH σ u R) n l kn a c W C od i = σ i := fun i a b => by rw [LH_o b, CH_ge a]
  obtain ⟨x1, x2, x3, x4, _⟩ := hX
  obtain ⟨hN, hNb, hR, hok, hD, hS, hL, j1, j2, j3⟩ := hd
  subst hn hl
  refine ⟨CH_of (σ := σ) (fun i hi => LH_o (by omega)), ⟨hN, hNb, hR, fun i h1 h2 => ?_, Or.inr ⟨hn6, bd, _, u 4, kn, hNE, hB, hV, hK, rfl⟩, ?_, ?_, j1, j2, j3⟩, fun i h1 h2 => fr i h1 (by omega)⟩
  · by_cases c1 : i = R.1 + 2
    · rw [c1, LH_kn]; exact okE_i
    by_cases c2 : i = R.2.2
    · rw [c2, eL]; exact okE_lo (by omega) (by omega) (by omega)
    by_cases c3 : i = a
    · rw [c3, eA]; exact okE_l
    by_cases c4 : i = c
    · rw [c4, eC]; exact okE_l
    rw [fr i h1 ⟨c1, c2, c3, c4⟩]; exact hok i h1 h2
  · rcases hS with e | ⟨p1, b, p2⟩
    · exact Or.inl e
    · exact Or.inr ⟨p1, b, p2.fr (Nat.le_refl _) (fun i h1 h2 => fr i (by omega) (by omega))⟩
  · refine Or.inr ⟨hl6, by omega, by omega, ?_⟩
    rcases x4 with ⟨rfl, rfl⟩ | ⟨rfl, rfl⟩
    · exact ⟨false, W, C, od, eL, eA, eC⟩
    · exact ⟨true, C, W, od, eL, eC, eA⟩
theorem LH_self {n l a c : Nat} {τ : Hp} {kn : Nat → Int32} {W C : Nat → Int64} {od : Int32} (h1 : τ (n + 2) = iR kn) (h2 : τ l = lObj a c n od) (h3 : τ a = lR W) (h4 : τ c = lR C) : LH τ n l kn a c W C od = τ := by
  funext i
  unfold LH
  by_cases c1 : i = n + 2
  · rw [if_pos c1, c1, h1]
  rw [if_neg c1]
  by_cases c2 : i = l
  · rw [if_pos c2, c2, h2]
  rw [if_neg c2]
  by_cases c3 : i = a
  · rw [if_pos c3, c3, h3]
  rw [if_neg c3]
  by_cases c4 : i = c
  · rw [if_pos c4, c4, h4]
  rw [if_neg c4]
theorem layered_ok (hd : DC m N σ R) (hB : BR (u 4) bd) (hV : VB m bd) (h0 : bd ≠ noB) (hm : m < 2 ^ 30) : ∃ n l N' σ' R' a c kn W C, m_X8_layered N (CH σ u R) 0 = some (l, N', LH (CH σ' u R') n l kn a c W C (nI (4096 * (cpi (frB bd.kd bd.D) (stx bd) / 4096)))) ∧ DC m N' σ' R' ∧ R'.1 = n ∧ R'.2.2 = l ∧ 66 ≤ l ∧ 66 ≤ n ∧ LYX N' (CH σ' u R') n l (frB bd.kd bd.D) (u 4) bd.P bd.H bd.D bd.kd a c ∧ KN bd.P bd.H bd.D bd.kd kn ∧ WtC W (vu (fun _ => 0) (cpi (frB bd.kd bd.D) (stx bd) % 4096) 1) ∧ ∀ i, 53 ≤ i → i < 66 → σ' i = σ i := by
  have h78 := hd.lt
  have hsx := stx_lt hV
  have hcp : cpi (frB bd.kd bd.D) (stx bd) < 8192 := by
    unfold cpi
    split
    · exact hsx
    · omega
  unfold m_X8_layered
  rw [C_rv hd.1, al_ok (DC.HW hd) (fun y hy => by simp at hy; have := hd.1; omega) (by omega) (by omega) (by omega)]
  simp only [Option.bind_some]
  obtain ⟨n, N1, σ1, kn, k1, k2, k3, k4, k5, k6⟩ := netNow_dc (u := u) hd hB hV h0
  have h781 := k5.lt
  have hN1 := k5.1
  rw [k1]
  simp only [Option.bind_some]
  rw [nb_ok (by omega)]
  simp only [Option.bind_some]
  rw [C_q9 hN1]
  simp only [Option.bind_some]
  -- begin, when layers lie at l
  have fin : ∀ (l N2 : Nat) (σ2 : Hp) (a c : Nat) (W C : Nat → Int64) (od : Int32), 66 ≤ l → DC m N2 σ2 (n, R.2.1, l) → NE N2 σ2 n (frB bd.kd bd.D) (u 4) kn → (n + 3 ≤ l ∨ l + 3 ≤ n) → l + 2 < N2 → (a = l + 1 ∧ c = l + 2 ∨ a = l + 2 ∧ c = l + 1) → σ2 l = lObj a c n od → σ2 a = lR W → σ2 c = lR C → (∀ i, 53 ≤ i → i < 66 → σ2 i = σ i) → ∃ n' l' N' σ' R' a c kn W C, ((gR N2 (CH σ2 u (n, R.2.1, l)) 0 8 9).bind fun x6 => (m_X3_begin N2 (CH σ2 u (n, R.2.1, l)) x6).bind fun r7 => (gR N2 r7 0 8 9).bind fun x8 => some (x8, N2, r7)) = some (l', N', LH (CH σ' u R') n' l' kn a c W C (nI (4096 * (cpi (frB bd.kd bd.D) (stx bd) / 4096)))) ∧ DC m N' σ' R' ∧ R'.1 = n' ∧ R'.2.2 = l' ∧ 66 ≤ l' ∧ 66 ≤ n' ∧ LYX N' (CH σ' u R') n' l' (frB bd.kd bd.D) (u 4) bd.P bd.H bd.D bd.kd a c ∧ KN bd.P bd.H bd.D bd.kd kn ∧ WtC W (vu (fun _ => 0) (cpi (frB bd.kd bd.D) (stx bd) % 4096) 1) ∧ ∀ i, 53 ≤ i → i < 66 → σ' i = σ i := fun l N2 σ2 a c W C od hl6 hd2 hNE2 hdj hlN hac e1 e2 e3 hfr => by
    have cg : ∀ i, 53 ≤ i → CH σ2 u (n, R.2.1, l) i = σ2 i := fun i hi => CH_ge hi
    have hX : LYX N2 (CH σ2 u (n, R.2.1, l)) n l (frB bd.kd bd.D) (u 4) bd.P bd.H bd.D bd.kd a c := ⟨hdj, hNE2.1, hlN, hac, by rw [cg _ (by omega)]; exact hNE2.2.1, by rw [cg _ (by omega)]; exact hNE2.2.2.1, hB.bl hV⟩
    have hself : LH (CH σ2 u (n, R.2.1, l)) n l kn a c W C od = CH σ2 u (n, R.2.1, l) := LH_self (by rw [cg _ (by omega)]; exact hNE2.2.2.2) (by rw [cg _ (by omega)]; exact e1) (by rw [cg _ (by omega)]; exact e2) (by rw [cg _ (by omega)]; exact e3)
    have r9 : gR N2 (CH σ2 u (n, R.2.1, l)) 0 8 9 = some l := C_r9 (R := (n, R.2.1, l)) hd2.1 (by show l ≠ 0; omega)
    obtain ⟨W', b1, b2⟩ := lbegin_ok (s0 := cpi (frB bd.kd bd.D) (stx bd)) hX (kn := kn) (W := W) (C := C) (od := od) hcp (fun W od => start_ok (LH_ne hX) hB hV hm)
    rw [hself] at b1
    obtain ⟨d1, d2, d3⟩ := DC_LH (W := W') (C := C) (od := nI (4096 * (cpi (frB bd.kd bd.D) (stx bd) / 4096))) hd2 rfl rfl hl6 k4 hX hB hV k3
    have r9' : gR N2 (LH (CH σ2 u (n, R.2.1, l)) n l kn a c W' C (nI (4096 * (cpi (frB bd.kd bd.D) (stx bd) / 4096)))) 0 8 9 = some l := by rw [d1]; exact C_r9 (R := (n, R.2.1, l)) hd2.1 (by show l ≠ 0; omega)
    rw [r9]
    simp only [Option.bind_some]
    rw [b1]
    simp only [Option.bind_some]
    rw [r9']
    exact ⟨n, l, N2, σ2, (n, R.2.1, l), a, c, kn, W', C, rfl, hd2, rfl, rfl, hl6, k4, hX, k3, b2, hfr⟩
  by_cases c : R.2.2 = 0
  · rw [show (n, R.2).2.2 = R.2.2 from rfl, if_pos c]
    unfold cQ
    simp only []
    have hRk : ∀ k, (n, R.2).1 < N1 + k ∧ (n, R.2).2.1 < N1 + k ∧ (n, R.2).2.2 < N1 + k := fun k => by have := k5.2.2.1; omega
    rw [al_ok (DC.HW k5) (fun y hy => by simp at hy; have := k5.2.2.1.1; have : (n, R.2).1 = n := rfl; omega) (by omega) (by omega) (by omega)]
    simp only [Option.bind_some, mkc]
    rw [CH_dn (by omega)]
    have nul : ∀ {N : Nat} {a b c : Value}, okV N a → okV N b → okV N c → okE N (.inr (3, [a, b, c, .int 0])) := fun ha hb hc => okE_o (fun v hv => by
      rcases List.mem_cons.mp hv with rfl | hv
      · exact ha
      rcases List.mem_cons.mp hv with rfl | hv
      · exact hb
      rcases List.mem_cons.mp hv with rfl | hv
      · exact hc
      rcases List.mem_cons.mp hv with rfl | hv
      · exact trivial
      exact absurd hv List.not_mem_nil)
    have hnN : n < N1 := by have := k2.1; omega
    have ok1 : OK (N1 + 1) (va_up σ1 N1 (.inr (3, [.null, .null, .null, .int 0]))) := k5.2.2.2.1.mono_up (nul trivial trivial trivial)
    rw [al_ok (CH_HW (u := u) (by omega) (hRk 1) ok1) (fun x hx => by simp at hx; omega) (by omega) (by omega) (by omega)]
    simp only [Option.bind_some]
    unfold m_X3_init
    rw [al_ok (CH_HW (u := u) (by omega) (hRk 1) ok1) (fun x hx => by simp at hx; omega) (by omega) (by omega) (by omega)]
    simp only [Option.bind_some, mkc]
    rw [CH_dn (by omega), pV_of (i := N1) (fs := [.null, .null, .null, .int 0]) (by omega) (by rw [CH_ge (by omega), vup_n (by omega), vup_s]) (by simp), CH_dn (by omega)]
    simp only [Option.bind_some, List.set]
    have ok2 := (ok1.mono_up (e := lR (fun _ => 0)) okE_l).up (k := N1) (e := .inr (3, [.ref (N1 + 1), .null, .null, .int 0])) (nul (show N1 + 1 < N1 + 1 + 1 by omega) trivial trivial)
    rw [show (.inl (1, 4096, .inr (.inl (fun _ => 0))) : va_E) = lR (fun _ => 0) from rfl, al_ok (CH_HW (u := u) (by omega) (hRk 2) ok2) (fun x hx => by simp at hx; omega) (by omega) (by omega) (by omega)]
    simp only [Option.bind_some, mkc]
    rw [CH_dn (by omega), pV_of (i := N1) (fs := [.ref (N1 + 1), .null, .null, .int 0]) (by omega) (by rw [CH_ge (by omega), vup_n (by omega), vup_s]) (by simp), CH_dn (by omega)]
    simp only [Option.bind_some, List.set]
    rw [pV_of (i := N1) (fs := [.ref (N1 + 1), .ref (N1 + 1 + 1), .null, .int 0]) (by omega) (by rw [CH_ge (by omega), vup_s]) (by simp), CH_dn (by omega), vup_vup]
    simp only [Option.bind_some, List.set]
    rw [nb_ok (by omega)]
    simp only [Option.bind_some]
    rw [C_p9 (by omega) (by omega)]
    simp only [Option.bind_some]
    have ok3 := (ok2.mono_up (e := lR (fun _ => 0)) okE_l).up (k := N1) (e := lObj (N1 + 1) (N1 + 1 + 1) n 0) (okE_lo (show N1 + 1 < N1 + 1 + 1 + 1 by omega) (show N1 + 1 + 1 < N1 + 1 + 1 + 1 by omega) (by omega))
    generalize hσ3 : va_up (va_up (va_up (va_up (va_up σ1 N1 (.inr (3, [.null, .null, .null, .int 0]))) (N1 + 1) (lR fun _ => 0)) N1 (.inr (3, [.ref (N1 + 1), .null, .null, .int 0]))) (N1 + 1 + 1) (lR fun _ => 0)) N1 (lObj (N1 + 1) (N1 + 1 + 1) n 0) = σ3 at ok3
    have hσe : CH (va_up (va_up (va_up (va_up (va_up σ1 N1 (.inr (3, [.null, .null, .null, .int 0]))) (N1 + 1) (lR fun _ => 0)) N1 (.inr (3, [.ref (N1 + 1), .null, .null, .int 0]))) (N1 + 1 + 1) (lR fun _ => 0)) N1 (.inr (3, [.ref (N1 + 1), .ref (N1 + 1 + 1), .ref n, .int 0]))) u ((n, R.2).1, (n, R.2).2.1, N1) = CH σ3 u (n, R.2.1, N1) := by rw [← hσ3]; rfl
    rw [hσe]
    have fr3 : ∀ i, i < N1 → σ3 i = σ1 i := fun i hi => by rw [← hσ3, vup_n (by omega), vup_n (by omega), vup_n (by omega), vup_n (by omega), vup_n (by omega)]
    have q0 : σ3 N1 = lObj (N1 + 1) (N1 + 1 + 1) n 0 := by rw [← hσ3, vup_s]
    have q1 : σ3 (N1 + 1) = lR (fun _ => 0) := by rw [← hσ3, vup_n (by omega), vup_n (by omega), vup_n (by omega), vup_s]
    have q2 : σ3 (N1 + 1 + 1) = lR (fun _ => 0) := by rw [← hσ3, vup_n (by omega), vup_s]
    have hNE3 : NE (N1 + 1 + 1 + 1) σ3 n (frB bd.kd bd.D) (u 4) kn := k2.fr (by omega) (fun i a b => fr3 i (by have := k2.1; omega))
    have k2n := k2.1
    obtain ⟨hN, hNb, hR, hok, hD, hS, hL, j1, j2, j3⟩ := k5
    refine fin N1 (N1 + 1 + 1 + 1) σ3 (N1 + 1) (N1 + 1 + 1) (fun _ => 0) (fun _ => 0) 0 hN1 ⟨by omega, ?_, ?_, ok3, Or.inr ⟨k4, bd, _, u 4, kn, hNE3, hB, hV, k3, rfl⟩, ?_, Or.inr ⟨hN1, by show N1 + 2 < N1 + 1 + 1 + 1; omega, by show n ≠ 0; omega, false, _, _, 0, q0, q1, q2⟩, j1, ?_, ?_⟩ hNE3 (by omega) (by omega) (Or.inl ⟨rfl, rfl⟩) q0 q1 q2 (fun i a b => by rw [fr3 i (by omega), k6 i a b])
    · show N1 + 1 + 1 + 1 ≤ 66 + (if n = 0 then 0 else 3) + (if R.2.1 = 0 then 0 else 6) + (if N1 = 0 then 0 else 3)
      have hNb : N1 ≤ 66 + (if n = 0 then 0 else 3) + (if R.2.1 = 0 then 0 else 6) + (if R.2.2 = 0 then 0 else 3) := hNb
      rw [if_pos c] at hNb
      rw [if_neg (show ¬ N1 = 0 by omega)]
      omega
    · show n < N1 + 1 + 1 + 1 ∧ R.2.1 < N1 + 1 + 1 + 1 ∧ N1 < N1 + 1 + 1 + 1
      have : R.2.1 < N1 := hR.2.1
      omega
    · show DS m (N1 + 1 + 1 + 1) σ3 R.2.1
      have hS : DS m N1 σ1 R.2.1 := hS
      rcases hS with e | ⟨p1, b, p2⟩
      · exact Or.inl e
      · have := DC.sp p2
        exact Or.inr ⟨p1, b, p2.fr (by omega) (fun i a b => fr3 i (by omega))⟩
    · show n = 0 ∨ N1 = 0 ∨ n + 3 ≤ N1 ∨ N1 + 3 ≤ n
      omega
    · show R.2.1 = 0 ∨ N1 = 0 ∨ R.2.1 + 6 ≤ N1 ∨ N1 + 3 ≤ R.2.1
      have hS : DS m N1 σ1 R.2.1 := hS
      rcases hS with e | ⟨p1, b, p2⟩
      · exact Or.inl e
      · have := DC.sp p2
        omega
  · rw [show (n, R.2).2.2 = R.2.2 from rfl, if_neg c]
    unfold cQ
    simp only [Option.bind_some]
    have hd2 := k5
    obtain ⟨hN, hNb, hR, hok, hD, hS, hL, j1, j2, j3⟩ := k5
    have hL : DL N1 σ1 R.2.2 n := hL
    have j2 : n = 0 ∨ R.2.2 = 0 ∨ n + 3 ≤ R.2.2 ∨ R.2.2 + 3 ≤ n := j2
    rcases hL with e | ⟨l1, l2, l3, sw, W1, W2, od, l4, l5, l6⟩
    · exact absurd e c
    · cases sw with
      | false => exact fin R.2.2 N1 σ1 (R.2.2 + 1) (R.2.2 + 2) W1 W2 od l1 hd2 k2 (by omega) l2 (Or.inl ⟨rfl, rfl⟩) l4 l5 l6 k6
      | true => exact fin R.2.2 N1 σ1 (R.2.2 + 2) (R.2.2 + 1) W2 W1 od l1 hd2 k2 (by omega) l2 (Or.inr ⟨rfl, rfl⟩) l4 l6 l5 k6
end LL
