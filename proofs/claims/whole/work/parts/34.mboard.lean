/-! boards in the reference -/
def encP (pg : Nat → Nat) : Nat → Nat
  | 0 => 0
  | n + 1 => encP pg n + pg n * 4 ^ n
theorem encP_lt {pg : Nat → Nat} {n : Nat} (h : ∀ d, d < n → pg d < 4) : encP pg n < 4 ^ n := by
  induction n with
  | zero => exact Nat.one_pos
  | succ n ih =>
    have h1 := ih (fun d hd => h d (by omega))
    have h2 := h n (by omega)
    rw [encP, Nat.pow_succ]
    have : pg n * 4 ^ n ≤ 3 * 4 ^ n := Nat.mul_le_mul_right _ (by omega)
    omega
theorem encP_pg {pg : Nat → Nat} {n : Nat} (h : ∀ d, d < n → pg d < 4) : ∀ {d : Nat}, d < n → pgx (encP pg n) d = pg d := by
  induction n with
  | zero => intro d hd; omega
  | succ n ih =>
    intro d hd
    have hl := encP_lt (n := n) (fun d hd => h d (by omega))
    unfold pgx
    rw [encP]
    by_cases c : d = n
    · subst c
      rw [Nat.add_mul_div_right _ _ (Nat.pow_pos (by omega)), Nat.div_eq_of_lt hl, Nat.zero_add]
      exact Nat.mod_eq_of_lt (h d (by omega))
    · have hd' : d < n := by omega
      obtain ⟨e, rfl⟩ : ∃ e, n = d + 1 + e := ⟨n - d - 1, by omega⟩
      rw [show pg (d + 1 + e) * 4 ^ (d + 1 + e) = (pg (d + 1 + e) * 4 ^ e * 4) * 4 ^ d by rw [show 4 ^ (d + 1 + e) = 4 ^ e * 4 * 4 ^ d by rw [show d + 1 + e = e + 1 + d by omega, Nat.pow_add, Nat.pow_succ]]; rw [Nat.mul_assoc, Nat.mul_assoc, Nat.mul_assoc], Nat.add_mul_div_right _ _ (Nat.pow_pos (by omega)), Nat.add_mul_mod_self_right]
      exact ih (fun d hd => h d (by omega)) hd'
/-- the number of a board's arrangement, 4096 beside it if MOVES is odd -/
def arn (b : AB) : Nat := encP b.pg b.D
def stx (b : AB) : Nat := (if b.M % 2 = 1 then 4096 else 0) + arn b
theorem VB.d4 {m : Nat} {b : AB} (h : VB m b) : (∀ d, b.pg d < 4) ∧ b.D ≤ 6 ∧ b.P ≤ 4 ∧ b.H ≤ 6 ∧ b.M ≤ m ∧ ∀ d, b.kd d ≤ 5 := by
  rcases h with rfl | ⟨h1, h2, h3, h4, h5, h6, h7, h8⟩
  · exact ⟨fun _ => (by decide : (0 : Nat) < 4), by decide, by decide, by decide, Nat.zero_le _, fun _ => Nat.zero_le _⟩
  · refine ⟨fun d => ?_, h5, by omega, h3, h6, fun d => ?_⟩
    · by_cases c : d < b.D
      · have := (h7 d c).2.2; omega
      · rw [(h8 d (by omega)).2]; omega
    · by_cases c : d < b.D
      · exact (h7 d c).2.1
      · rw [(h8 d (by omega)).1]; omega
theorem arn_lt {m : Nat} {b : AB} (h : VB m b) : arn b < 4096 := by
  obtain ⟨h1, h2, _⟩ := h.d4
  exact Nat.lt_of_lt_of_le (encP_lt (fun d _ => h1 d)) (Nat.le_trans (Nat.pow_le_pow_right (by omega) h2) (by decide))
theorem stx_lt {m : Nat} {b : AB} (h : VB m b) : stx b < 8192 := by
  have := arn_lt h
  unfold stx; split <;> omega
/-- as a code: figures from the greatest disc on -/
def cdR (x D : Nat) : Nat → Nat
  | 0 => 0
  | r + 1 => 10 * cdR x D r + pgx x (D - (r + 1))
def cod (x D : Nat) : Nat := cdR x D D
theorem cdR_lt (x D r : Nat) : cdR x D r < 10 ^ r := by
  induction r with
  | zero => exact Nat.one_pos
  | succ r ih =>
    rw [cdR, Nat.pow_succ]
    have := pgx_lt x (D - (r + 1))
    omega
section MB
variable {N m : Nat} {f : Nat → Int32} {a : Nat → Nat → Int32} {b : Nat → Nat → Int64} {s : AS} {σ : Hp}
theorem state_loop (hN : 66 ≤ N) {bd : AB} (hB : ABm (a 58) 0 bd) (hV : VB m bd) (z : Nat) (hz : z ≤ 4096) : ∀ (r n j : Nat), j + r = bd.D → r < n → L_X9_state_22 N (MH σ f a b) 53 n (nI (z + encP bd.pg j)) (nI j) = some (nI (z + encP bd.pg bd.D)) := by
  obtain ⟨h4, h6, _⟩ := hV.d4
  obtain ⟨_, _, hD, _, hd⟩ := hB
  intro r
  induction r with
  | zero =>
    intro n j hj hn
    obtain ⟨n, rfl⟩ : ∃ k, n = k + 1 := ⟨n - 1, by omega⟩
    obtain rfl : j = bd.D := by omega
    rw [L_X9_state_22.eq_2]
    simp only [MH_rv hN, MH_f3 hN, MH_f4 hN, MH_f6 hN, MH_f7 hN, MH_f8 hN, MH_f9 hN, MH_f11 hN, MH_f16 hN, MH_f19 hN, MH_f20 hN, MH_f21 hN, MH_f23 hN, MH_r0 hN, MH_r1 hN, MH_r2 hN, MH_r5 hN, MH_r10 hN, MH_r12 hN, MH_r13 hN, MH_r14 hN, MH_r15 hN, MH_r17 hN, MH_r18 hN, MH_r22 hN, Option.bind_some]
    rw [show (2 : Int32) = nI 2 from rfl, MH_a58 hN (by omega)]
    simp only [Option.bind_some]
    rw [hD, if_pos (nI_le (Nat.le_refl _) (by omega))]
  | succ r ih =>
    intro n j hj hn
    obtain ⟨n, rfl⟩ : ∃ k, n = k + 1 := ⟨n - 1, by omega⟩
    rw [L_X9_state_22.eq_2]
    simp only [MH_rv hN, MH_f3 hN, MH_f4 hN, MH_f6 hN, MH_f7 hN, MH_f8 hN, MH_f9 hN, MH_f11 hN, MH_f16 hN, MH_f19 hN, MH_f20 hN, MH_f21 hN, MH_f23 hN, MH_r0 hN, MH_r1 hN, MH_r2 hN, MH_r5 hN, MH_r10 hN, MH_r12 hN, MH_r13 hN, MH_r14 hN, MH_r15 hN, MH_r17 hN, MH_r18 hN, MH_r22 hN, Option.bind_some]
    rw [show (2 : Int32) = nI 2 from rfl, MH_a58 hN (by omega)]
    simp only [Option.bind_some]
    rw [hD, if_neg (nI_ge (by omega) (by omega)), show (10 : Int32) = nI 10 from rfl, nI_add, MH_a58 hN (by omega)]
    simp only [Option.bind_some]
    have e := (hd j (by omega)).2
    rw [show 16 * 0 + 10 + j = 10 + j by omega] at e
    have hp : 4 ^ j ≤ 1024 := Nat.le_trans (Nat.pow_le_pow_right (by omega) (show j ≤ 5 by omega)) (by decide)
    have h3 : bd.pg j * 4 ^ j ≤ 3 * 1024 := Nat.mul_le_mul (by have := h4 j; omega) hp
    rw [e, pk_mul, ni_shl (by omega) (by rw [← pow4]; omega), ← pow4, nI_add, lt, nI_1]
    have := ih n (j + 1) (by omega) (by omega)
    rw [encP, ← Nat.add_assoc] at this
    exact this
theorem mod2 {M : Nat} (h : M < 2 ^ 31) : nI M - nI M / 2 * 2 = nI (M % 2) := by
  rw [show (2 : Int32) = nI 2 from rfl]; exact pk_rem h (by omega) (by omega)
theorem state_ok (hN : 66 ≤ N) {bd : AB} (hB : ABm (a 58) 0 bd) (hV : VB m bd) (hm : m < 2 ^ 30) : m_X9_state N (MH σ f a b) 53 = some (nI (stx bd)) := by
  obtain ⟨h4, h6, _, _, hM, _⟩ := hV.d4
  unfold m_X9_state stx arn
  simp only [MH_rv hN, MH_f3 hN, MH_f4 hN, MH_f6 hN, MH_f7 hN, MH_f8 hN, MH_f9 hN, MH_f11 hN, MH_f16 hN, MH_f19 hN, MH_f20 hN, MH_f21 hN, MH_f23 hN, MH_r0 hN, MH_r1 hN, MH_r2 hN, MH_r5 hN, MH_r10 hN, MH_r12 hN, MH_r13 hN, MH_r14 hN, MH_r15 hN, MH_r17 hN, MH_r18 hN, MH_r22 hN, Option.bind_some]
  rw [show (3 : Int32) = nI 3 from rfl, MH_a58 hN (by omega)]
  simp only [Option.bind_some]
  rw [show a 58 3 = nI bd.M from hB.2.2.2.1, mod2 (by omega)]
  by_cases c : bd.M % 2 = 1
  · rw [if_pos c, if_pos (by rw [c]; rfl)]
    simp only [Option.bind_some]
    have := state_loop (N := N) (σ := σ) (f := f) (b := b) hN hB hV 4096 (Nat.le_refl _) bd.D fu 0 (by omega) (Nat.lt_of_le_of_lt h6 (by decide))
    rw [show encP bd.pg 0 = 0 from rfl, nI_0] at this
    rw [show (4096 : Int32) = nI (4096 + 0) from rfl, this]
    rfl
  · have c2 : bd.M % 2 = 0 := by omega
    rw [if_neg c, if_neg (by rw [c2]; decide +kernel)]
    simp only [Option.bind_some]
    have := state_loop (N := N) (σ := σ) (f := f) (b := b) hN hB hV 0 (by omega) bd.D fu 0 (by omega) (Nat.lt_of_le_of_lt h6 (by decide))
    rw [show encP bd.pg 0 = 0 from rfl, nI_0] at this
    rw [this]
    rfl
theorem codeOf_loop {x D : Nat} (hx : x < 2 ^ 31) (hD : D ≤ 6) : ∀ (r n : Nat), r ≤ D → r < n → L_X9_codeOf_11 N σ (nI x) n (nI (cdR x D (D - r))) (nI r - 1) = some (nI (cod x D)) := by
  intro r
  induction r with
  | zero =>
    intro n hr hn
    obtain ⟨n, rfl⟩ : ∃ k, n = k + 1 := ⟨n - 1, by omega⟩
    rw [L_X9_codeOf_11.eq_2, if_pos (by decide +kernel)]
    rfl
  | succ r ih =>
    intro n hr hn
    obtain ⟨n, rfl⟩ : ∃ k, n = k + 1 := ⟨n - 1, by omega⟩
    have hc := cdR_lt x D (D - (r + 1))
    rw [L_X9_codeOf_11.eq_2, nI_pred, if_neg (nI_pos (by omega)), pegIn_ok hx (by omega)]
    simp only [Option.bind_some]
    rw [show (10 : Int32) = nI 10 from rfl, pk_mul, nI_add, show nI r + (-1) = nI r - 1 by rw [Int32.sub_eq_add_neg]]
    have := ih n (by omega) (by omega)
    rw [show D - r = D - (r + 1) + 1 by omega, cdR, show D - (D - (r + 1) + 1) = r by omega] at this
    exact this
theorem codeOf_ok (hN : 66 ≤ N) {D x : Nat} (hD : a 58 2 = nI D) (h6 : D ≤ 6) (hx : x < 2 ^ 31) : m_X9_codeOf N (MH σ f a b) 53 (nI x) = some (nI (cod x D)) := by
  unfold m_X9_codeOf
  simp only [MH_rv hN, MH_f3 hN, MH_f4 hN, MH_f6 hN, MH_f7 hN, MH_f8 hN, MH_f9 hN, MH_f11 hN, MH_f16 hN, MH_f19 hN, MH_f20 hN, MH_f21 hN, MH_f23 hN, MH_r0 hN, MH_r1 hN, MH_r2 hN, MH_r5 hN, MH_r10 hN, MH_r12 hN, MH_r13 hN, MH_r14 hN, MH_r15 hN, MH_r17 hN, MH_r18 hN, MH_r22 hN, Option.bind_some]
  rw [show (2 : Int32) = nI 2 from rfl, MH_a58 hN (by omega)]
  simp only [Option.bind_some]
  rw [hD]
  have := codeOf_loop (N := N) (σ := MH σ f a b) hx h6 D fu (Nat.le_refl _) (Nat.lt_of_le_of_lt h6 (by decide))
  rw [Nat.sub_self, show cdR x D 0 = 0 from rfl, nI_0] at this
  rw [this]
  rfl
theorem isBoard_ok (hN : 66 ≤ N) (h : RM f a s) (hv : VA m s) : m_X9_isBoard N (MH σ f a b) 53 = some (if s.bd.P = 0 then 0 else 1) := by
  obtain ⟨_, _, hP, _⟩ := hv.2.2.1.d4
  unfold m_X9_isBoard
  simp only [MH_rv hN, MH_f3 hN, MH_f4 hN, MH_f6 hN, MH_f7 hN, MH_f8 hN, MH_f9 hN, MH_f11 hN, MH_f16 hN, MH_f19 hN, MH_f20 hN, MH_f21 hN, MH_f23 hN, MH_r0 hN, MH_r1 hN, MH_r2 hN, MH_r5 hN, MH_r10 hN, MH_r12 hN, MH_r13 hN, MH_r14 hN, MH_r15 hN, MH_r17 hN, MH_r18 hN, MH_r22 hN, Option.bind_some]
  rw [show (0 : Int32) = nI 0 from rfl, MH_a58 hN (by omega)]
  simp only [Option.bind_some]
  rw [show a 58 0 = nI s.bd.P from h.2.2.2.2.1.1]
  by_cases c : s.bd.P = 0
  · rw [if_pos c, c, if_pos (nI_le (Nat.le_refl _) (by omega))]
  · rw [if_neg c, if_neg (nI_ge (by omega) (by omega))]
theorem isPeg_ok (hN : 66 ≤ N) (h : RM f a s) (hv : VA m s) (x : Int32) : m_X9_isPeg N (MH σ f a b) 53 x = some (if 0 ≤ x ∧ x < nI s.bd.P then 1 else 0) := by
  obtain ⟨_, _, hP, _⟩ := hv.2.2.1.d4
  unfold m_X9_isPeg
  simp only [MH_rv hN, MH_f3 hN, MH_f4 hN, MH_f6 hN, MH_f7 hN, MH_f8 hN, MH_f9 hN, MH_f11 hN, MH_f16 hN, MH_f19 hN, MH_f20 hN, MH_f21 hN, MH_f23 hN, MH_r0 hN, MH_r1 hN, MH_r2 hN, MH_r5 hN, MH_r10 hN, MH_r12 hN, MH_r13 hN, MH_r14 hN, MH_r15 hN, MH_r17 hN, MH_r18 hN, MH_r22 hN, Option.bind_some]
  rw [show aI 0 N (MH σ f a b) 58 0 = some (a 58 0) from MH_a58 (k := 0) hN (by omega)]
  simp only [Option.bind_some]
  rw [show a 58 0 = nI s.bd.P from h.2.2.2.2.1.1, in_pred x (by omega)]
  simp only [Option.bind_some, zb01]
theorem isDisc_ok (hN : 66 ≤ N) (h : RM f a s) (hv : VA m s) (x : Int32) : m_X9_isDisc N (MH σ f a b) 53 x = some (if 0 ≤ x ∧ x < nI s.bd.D then 1 else 0) := by
  obtain ⟨_, hD, _⟩ := hv.2.2.1.d4
  unfold m_X9_isDisc
  simp only [MH_rv hN, MH_f3 hN, MH_f4 hN, MH_f6 hN, MH_f7 hN, MH_f8 hN, MH_f9 hN, MH_f11 hN, MH_f16 hN, MH_f19 hN, MH_f20 hN, MH_f21 hN, MH_f23 hN, MH_r0 hN, MH_r1 hN, MH_r2 hN, MH_r5 hN, MH_r10 hN, MH_r12 hN, MH_r13 hN, MH_r14 hN, MH_r15 hN, MH_r17 hN, MH_r18 hN, MH_r22 hN, Option.bind_some]
  rw [show aI 0 N (MH σ f a b) 58 2 = some (a 58 2) from MH_a58 (k := 2) hN (by omega)]
  simp only [Option.bind_some]
  rw [show a 58 2 = nI s.bd.D from h.2.2.2.2.1.2.2.1, in_pred x (by omega)]
  simp only [Option.bind_some, zb01]
end MB
