/-! figures by bits -/
theorem pgx_tb (x d : Nat) : pgx x d = (x.testBit (2 * d)).toNat + 2 * (x.testBit (2 * d + 1)).toNat := by
  unfold pgx
  rw [pow4, Nat.testBit_eq_decide_div_mod_eq, Nat.testBit_eq_decide_div_mod_eq, show 2 ^ (2 * d + 1) = 2 ^ (2 * d) * 2 by rw [Nat.pow_succ], ← Nat.div_div_eq_div_mul]
  generalize x / 2 ^ (2 * d) = y
  have : ∀ (c : Prop) [Decidable c], (decide c).toNat = if c then 1 else 0 := fun c _ => by by_cases h : c <;> simp [h]
  rw [this, this]
  split <;> split <;> omega
theorem pgx_lt (x d : Nat) : pgx x d < 4 := Nat.mod_lt _ (by omega)
theorem tb_small {x n i : Nat} (h : x < 2 ^ n) (hi : n ≤ i) : x.testBit i = false := Nat.testBit_lt_two_pow (Nat.lt_of_lt_of_le h (Nat.pow_le_pow_right (by omega) hi))
theorem setd_tb {x d t i : Nat} (hx : x < 2 ^ 31) (hd : d < 6) (ht : t < 4) : (setd x d t).testBit i = if 2 * d ≤ i ∧ i < 2 * d + 2 then t.testBit (i - 2 * d) else x.testBit i := by
  unfold setd
  have h3 : 3 * 4 ^ d < 2 ^ 32 := by
    rcases (show d = 0 ∨ d = 1 ∨ d = 2 ∨ d = 3 ∨ d = 4 ∨ d = 5 by omega) with rfl | rfl | rfl | rfl | rfl | rfl <;> decide
  have t3 : (3 * 4 ^ d).testBit i = decide (2 * d ≤ i ∧ i < 2 * d + 2) := by
    rw [pow4, Nat.testBit_mul_two_pow]
    have : ∀ j, (3 : Nat).testBit j = decide (j < 2) := by
      intro j
      match j with
      | 0 => rfl
      | 1 => rfl
      | j + 2 => rw [tb_small (n := 2) (by omega) (by omega)]; simp
    rw [this]
    by_cases h : 2 * d ≤ i
    · simp [h]; omega
    · simp [h]
  have tt : (t * 4 ^ d).testBit i = (decide (2 * d ≤ i) && t.testBit (i - 2 * d)) := by rw [pow4, Nat.testBit_mul_two_pow]
  rw [Nat.testBit_or, Nat.testBit_and, tt]
  by_cases hi : i < 32
  · rw [tb_not h3 hi, t3]
    by_cases h : 2 * d ≤ i ∧ i < 2 * d + 2
    · rw [if_pos h]; simp [h]
    · rw [if_neg h]
      by_cases h1 : 2 * d ≤ i
      · rw [tb_small (x := t) (n := 2) (by omega) (by omega)]; simp [h]
      · simp [h1]
  · rw [tb_small (x := x) (n := 31) hx (by omega), if_neg (by omega), tb_small (x := t) (n := 2) (by omega) (by omega)]
    simp
theorem setd_pg {x d t d' : Nat} (hx : x < 2 ^ 31) (hd : d < 6) (ht : t < 4) : pgx (setd x d t) d' = if d' = d then t else pgx x d' := by
  rw [pgx_tb, setd_tb hx hd ht, setd_tb hx hd ht]
  by_cases h : d' = d
  · subst h
    rw [if_pos (by omega), if_pos (by omega), if_pos rfl, Nat.sub_self, show 2 * d' + 1 - 2 * d' = 1 by omega]
    rcases (show t = 0 ∨ t = 1 ∨ t = 2 ∨ t = 3 by omega) with rfl | rfl | rfl | rfl <;> rfl
  · rw [if_neg (by omega), if_neg (by omega), if_neg h, ← pgx_tb]
theorem setd_lt {x d t n : Nat} (hx : x < 2 ^ n) (hn : 12 ≤ n) (hn2 : n ≤ 31) (hd : d < 6) (ht : t < 4) : setd x d t < 2 ^ n := by
  apply Nat.lt_pow_two_of_testBit
  intro i hi
  rw [setd_tb (Nat.lt_of_lt_of_le hx (Nat.pow_le_pow_right (by omega) hn2)) hd ht, if_neg (by omega)]
  exact tb_small hx hi
theorem nxt_tb {x d t i : Nat} : (nxt x d t).testBit i = ((setd x d t).testBit i != decide (i = 12)) := by
  unfold nxt
  rw [Nat.testBit_xor, show (4096 : Nat) = 2 ^ 12 from rfl, Nat.testBit_two_pow]
  by_cases h : i = 12
  · subst h; simp
  · rw [show decide (12 = i) = false from decide_eq_false (fun e => h e.symm), show decide (i = 12) = false from decide_eq_false h]
theorem nxt_lt {x d t : Nat} (hx : x < 8192) (hd : d < 6) (ht : t < 4) : nxt x d t < 8192 := by
  show _ < 2 ^ 13
  apply Nat.lt_pow_two_of_testBit
  intro i hi
  rw [nxt_tb, setd_tb (by omega) hd ht, if_neg (by omega), tb_small (n := 13) hx hi]
  simp; omega
theorem nxt_pg {x d t d' : Nat} (hx : x < 8192) (hd : d < 6) (ht : t < 4) (h6 : d' < 6) : pgx (nxt x d t) d' = if d' = d then t else pgx x d' := by
  rw [← setd_pg (by omega) hd ht, pgx_tb, pgx_tb, nxt_tb, nxt_tb]
  rw [show decide (2 * d' = 12) = false by simp; omega, show decide (2 * d' + 1 = 12) = false by simp; omega]
  simp
theorem odd_tb {x : Nat} (hx : x < 8192) : x.testBit 12 = decide (4096 ≤ x) := by
  rw [Nat.testBit_eq_decide_div_mod_eq]
  simp only [decide_eq_decide]
  omega
theorem nxt_odd {x d t : Nat} (hx : x < 8192) (hd : d < 6) (ht : t < 4) : decide (4096 ≤ nxt x d t) = !decide (4096 ≤ x) := by
  rw [← odd_tb (nxt_lt hx hd ht), nxt_tb, setd_tb (by omega) hd ht, if_neg (by omega), odd_tb hx]
  simp
/-- six figures tell an arrangement -/
theorem dig_ext {x y n : Nat} (hx : x < 2 ^ 12) (hy : y < 2 ^ 12) (hn : n = 6) (h : ∀ d, d < n → pgx x d = pgx y d) : x = y := by
  subst hn
  apply Nat.eq_of_testBit_eq
  intro i
  by_cases hi : i < 12
  · have h1 := h (i / 2) (by omega)
    rw [pgx_tb, pgx_tb] at h1
    rcases Nat.mod_two_eq_zero_or_one i with h0 | h0
    · rw [show 2 * (i / 2) = i by omega] at h1
      cases hA : x.testBit i <;> cases hB : y.testBit i <;> simp [hA, hB] at h1 ⊢ <;> omega
    · rw [show 2 * (i / 2) + 1 = i by omega] at h1
      cases hA : x.testBit i <;> cases hB : y.testBit i <;> simp [hA, hB] at h1 ⊢ <;> (revert h1; cases x.testBit (2 * (i / 2)) <;> cases y.testBit (2 * (i / 2)) <;> simp)
  · rw [tb_small hx (by omega), tb_small hy (by omega)]
theorem moved_ok {x d t : Nat} (hx : x < 8192) (hd : d < 6) (ht : t < 4) : m_X9_moved (nI x) (nI d) (nI t) = some (nI (nxt x d t)) := by
  unfold m_X9_moved
  have hp : 4 ^ d ≤ 1024 := by
    rcases (show d = 0 ∨ d = 1 ∨ d = 2 ∨ d = 3 ∨ d = 4 ∨ d = 5 by omega) with rfl | rfl | rfl | rfl | rfl | rfl <;> decide
  have h3 : 3 * 2 ^ (2 * d) < 2 ^ 32 := by rw [← pow4]; omega
  have h4 : t * 2 ^ (2 * d) < 2 ^ 32 := by
    rw [← pow4]
    have : t * 4 ^ d ≤ 3 * 1024 := Nat.mul_le_mul (by omega) hp
    omega
  rw [show (2 : Int32) = nI 2 from rfl, pk_mul, show (3 : Int32) = nI 3 from rfl, ni_shl (by omega) h3, ni_not h3, ni_and, ni_shl (by omega) h4, ni_or, show (4096 : Int32) = nI 4096 from rfl, ni_xor]
  unfold nxt setd
  rw [pow4]
theorem div4 {j : Nat} (hj : j < 16) : nI j / 4 = nI (j / 4) ∧ nI j - nI j / 4 * 4 = nI (j % 4) := by
  have : ∀ j, j < 16 → nI j / 4 = nI (j / 4) ∧ nI j - nI j / 4 * 4 = nI (j % 4) := by decide +kernel
  exact this j hj
/-- the moves as a set -/
theorem mmR_tb (P H D : Nat) (kd : Nat → Nat) (x : Nat) : ∀ (n k : Nat), (mmR P H D kd x n).testBit k = decide (k < n ∧ k / 4 < P ∧ k % 4 < P ∧ mvr H D kd x (k / 4) (k % 4) < 6) := by
  intro n
  induction n with
  | zero => intro k; simp [mmR]
  | succ n ih =>
    intro k
    rw [mmR, Nat.testBit_or, ih]
    by_cases h1 : n / 4 < P ∧ n % 4 < P ∧ mvr H D kd x (n / 4) (n % 4) < 6
    · rw [if_pos h1, Nat.testBit_two_pow]
      by_cases h2 : n = k
      · subst h2; simp [h1]
      · simp only [h2, decide_false, Bool.or_false, decide_eq_decide]
        constructor
        · rintro ⟨a, b⟩; exact ⟨by omega, b⟩
        · rintro ⟨a, b⟩; exact ⟨by omega, b⟩
    · rw [if_neg h1]
      simp only [Nat.zero_testBit, Bool.or_false, decide_eq_decide]
      constructor
      · rintro ⟨a, b⟩; exact ⟨by omega, b⟩
      · rintro ⟨a, b⟩
        by_cases h2 : k = n
        · subst h2; exact absurd b h1
        · exact ⟨by omega, b⟩
theorem mmR_lt (P H D : Nat) (kd : Nat → Nat) (x n : Nat) : mmR P H D kd x n < 2 ^ n := by
  apply Nat.lt_pow_two_of_testBit
  intro i hi
  rw [mmR_tb]
  simp; omega
/-- a move that may be -/
def lgl (P H D : Nat) (kd : Nat → Nat) (x k : Nat) : Bool := (mms P H D kd x).testBit k
theorem lgl_iff (P H D : Nat) (kd : Nat → Nat) (x k : Nat) : lgl P H D kd x k = true ↔ k < 16 ∧ k / 4 < P ∧ k % 4 < P ∧ mvr H D kd x (k / 4) (k % 4) < 6 := by
  unfold lgl mms
  rw [mmR_tb]; simp
/-- where a move leads -/
def bhd (H D : Nat) (kd : Nat → Nat) (x k : Nat) : Nat := nxt x (mvr H D kd x (k / 4) (k % 4)) (k % 4)
section St
variable {N : Nat} {σ : Hp} {f : Nat → Int32} {a : Nat → Nat → Int32} {b : Nat → Nat → Int64} {P H D : Nat} {kd : Nat → Nat}
theorem movesOf_loop (hN : 66 ≤ N) (hT : Told f (a 58) P H D kd) {x : Nat} (hx : x < 8192) : ∀ (r n j : Nat), j + r = 16 → r < n → L_X9_movesOf_4 N (MH σ f a b) 53 (nI x) n (nI (mmR P H D kd x j)) (nI j) = some (nI (mms P H D kd x)) := by
  obtain ⟨hP, _, hP4, _⟩ := id hT
  intro r
  induction r with
  | zero =>
    intro n j hj hn
    obtain ⟨n, rfl⟩ : ∃ k, n = k + 1 := ⟨n - 1, by omega⟩
    obtain rfl : j = 16 := by omega
    rw [L_X9_movesOf_4.eq_2, if_pos (by decide +kernel)]
    rfl
  | succ r ih =>
    intro n j hj hn
    obtain ⟨n, rfl⟩ : ∃ k, n = k + 1 := ⟨n - 1, by omega⟩
    have hw := ih n (j + 1) (by omega) (by omega)
    have hlt := mmR_lt P H D kd x j
    have h16 : 2 ^ j ≤ 2 ^ 16 := Nat.pow_le_pow_right (by omega) (by omega)
    have e : mmR P H D kd x (j + 1) = mmR P H D kd x j ||| (if j / 4 < P ∧ j % 4 < P ∧ mvr H D kd x (j / 4) (j % 4) < 6 then 2 ^ j else 0) := rfl
    rw [e] at hw
    have hm := mvr_le H D kd x (j / 4) (j % 4)
    rw [L_X9_movesOf_4.eq_2, if_neg (by rw [show (16 : Int32) = nI 16 from rfl, nI_leI (by omega) (by omega)]; omega), (div4 (show j < 16 by omega)).1, ← (div4 (show j < 16 by omega)).1, (div4 (show j < 16 by omega)).2, (div4 (show j < 16 by omega)).1, MH_r10 hN]
    simp only [Option.bind_some]
    rw [show (0 : Int32) = nI 0 from rfl, MH_a58 hN (by omega)]
    simp only [Option.bind_some]
    rw [hP]
    by_cases c1 : j / 4 < P
    · rw [if_neg (nI_ge c1 (by omega))]
      by_cases c2 : j % 4 < P
      · rw [if_neg (nI_ge c2 (by omega)), mover_ok hN hT hx (by omega) (by omega)]
        simp only [Option.bind_some]
        by_cases c3 : mvr H D kd x (j / 4) (j % 4) < 6
        · rw [if_neg (by rw [show (6 : Int32) = nI 6 from rfl, nI_leI (by omega) (by omega)]; omega), lt, show (1 : Int32) = nI 1 from rfl, ni_shl (by omega) (by rw [Nat.one_mul]; exact Nat.pow_lt_pow_right (by omega) (by omega)), ni_or, nI_add, Nat.one_mul]
          rw [if_pos ⟨c1, c2, c3⟩] at hw
          exact hw
        · rw [if_pos (by rw [show (6 : Int32) = nI 6 from rfl, nI_leI (by omega) (by omega)]; omega), ni_or, show (1 : Int32) = nI 1 from rfl, nI_add]
          rw [if_neg (fun h => c3 h.2.2)] at hw
          exact hw
      · rw [if_pos (nI_le (by omega) (by omega)), ni_or, show (1 : Int32) = nI 1 from rfl, nI_add]
        rw [if_neg (fun h => c2 h.2.1)] at hw
        exact hw
    · rw [if_pos (nI_le (by omega) (by omega)), ni_or, show (1 : Int32) = nI 1 from rfl, nI_add]
      rw [if_neg (fun h => c1 h.1)] at hw
      exact hw
theorem movesOf_ok (hN : 66 ≤ N) (hT : Told f (a 58) P H D kd) {x : Nat} (hx : x < 8192) : m_X9_movesOf N (MH σ f a b) 53 (nI x) = some (nI (mms P H D kd x)) := by
  unfold m_X9_movesOf
  rw [MH_rv hN]
  simp only [Option.bind_some]
  have := movesOf_loop (N := N) (σ := σ) (b := b) hN hT hx 16 fu 0 (by omega) (by decide)
  rw [show mmR P H D kd x 0 = 0 from rfl, nI_0] at this
  rw [this]
  rfl
theorem behind_ok (hN : 66 ≤ N) (hT : Told f (a 58) P H D kd) {x k : Nat} (hx : x < 8192) (hk : lgl P H D kd x k = true) : m_X9_behind N (MH σ f a b) 53 (nI x) (nI k) = some (nI (bhd H D kd x k)) := by
  obtain ⟨k1, k2, k3, k4⟩ := (lgl_iff P H D kd x k).mp hk
  unfold m_X9_behind
  rw [MH_rv hN]
  simp only [Option.bind_some]
  rw [(div4 k1).2, (div4 k1).1, mover_ok hN hT hx (by omega) (by omega)]
  simp only [Option.bind_some]
  rw [moved_ok hx k4 (by omega)]
  rfl
end St
