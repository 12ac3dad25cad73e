/-! discs, pegs, moves: on numbers. An arrangement is a number of six figures by four; 4096 beside it: MOVES is odd -/
def pgx (x d : Nat) : Nat := x / 4 ^ d % 4
def lset (x p : Nat) : Nat → Nat
  | 0 => 0
  | D + 1 => lset x p D ||| (if pgx x D = p then 2 ^ D else 0)
theorem lset_tb (x p : Nat) : ∀ (D d : Nat), (lset x p D).testBit d = decide (d < D ∧ pgx x d = p) := by
  intro D
  induction D with
  | zero => intro d; simp [lset]
  | succ D ih =>
    intro d
    rw [lset, Nat.testBit_or, ih]
    by_cases h1 : pgx x D = p
    · rw [if_pos h1, Nat.testBit_two_pow]
      by_cases h2 : D = d
      · subst h2; simp [h1]
      · simp only [h2, decide_false, Bool.or_false, decide_eq_decide]
        constructor
        · rintro ⟨a, b⟩; exact ⟨by omega, b⟩
        · rintro ⟨a, b⟩; exact ⟨by omega, b⟩
    · rw [if_neg h1]
      simp only [Nat.zero_testBit, Bool.or_false, decide_eq_decide]
      constructor
      · rintro ⟨a, b⟩; exact ⟨by omega, b⟩
      · rintro ⟨a, b⟩
        by_cases h2 : d = D
        · subst h2; exact absurd b h1
        · exact ⟨by omega, b⟩
theorem lset_lt (x p D : Nat) : lset x p D < 2 ^ D := by
  apply Nat.lt_pow_two_of_testBit
  intro i hi
  rw [lset_tb]
  simp; omega
theorem lset_64 {x p D : Nat} (h : D ≤ 6) : lset x p D < 64 := Nat.lt_of_lt_of_le (lset_lt x p D) (Nat.pow_le_pow_right (by omega) h)
/-- the lowest of a set of numbers below six, from 6 - r on; 6: none -/
def lowR (s : Nat) : Nat → Nat
  | 0 => 6
  | r + 1 => if s.testBit (5 - r) then 5 - r else lowR s r
def low (s : Nat) : Nat := lowR s 6
def bcR (s : Nat) : Nat → Nat
  | 0 => 0
  | k + 1 => bcR s k + s / 2 ^ k % 2
def bc (s : Nat) : Nat := bcR s 6
theorem lowR_le (s r : Nat) : lowR s r ≤ 6 := by
  induction r with
  | zero => exact Nat.le_refl _
  | succ r ih => rw [lowR]; split <;> omega
theorem low_le (s : Nat) : low s ≤ 6 := lowR_le s 6
theorem bc_le (s : Nat) : bc s ≤ 6 := by
  unfold bc
  have : ∀ k, bcR s k ≤ k := by
    intro k
    induction k with
    | zero => exact Nat.le_refl _
    | succ k ih => rw [bcR]; have := Nat.mod_lt (s / 2 ^ k) (show 0 < 2 by omega); omega
  exact this 6
/-- whether a disc d of a kind may go from p to q, where th lie -/
def may (H kind d p q th : Nat) (odd : Bool) : Bool := kind == 1 || (kind == 2 && (p == q + 1 || q == p + 1)) || (kind == 3 && !th.testBit (d + 1)) || (decide (4 ≤ kind) && decide (bc th < H) && (kind == 4 || !odd))
def mvr (H D : Nat) (kd : Nat → Nat) (x p q : Nat) : Nat :=
  if p = q ∨ low (lset x p D) = 6 ∨ low (lset x q D) < low (lset x p D) then 6
  else if may H (kd (low (lset x p D))) (low (lset x p D)) p q (lset x q D) (decide (4096 ≤ x)) then low (lset x p D) else 6
theorem mvr_le (H D : Nat) (kd : Nat → Nat) (x p q : Nat) : mvr H D kd x p q ≤ 6 := by
  unfold mvr
  split
  · exact Nat.le_refl _
  · split
    · exact low_le _
    · exact Nat.le_refl _
/-- the moves that may be, by their numbers -/
def mmR (P H D : Nat) (kd : Nat → Nat) (x : Nat) : Nat → Nat
  | 0 => 0
  | k + 1 => mmR P H D kd x k ||| (if k / 4 < P ∧ k % 4 < P ∧ mvr H D kd x (k / 4) (k % 4) < 6 then 2 ^ k else 0)
def mms (P H D : Nat) (kd : Nat → Nat) (x : Nat) : Nat := mmR P H D kd x 16
/-- disc d goes to peg t -/
def setd (x d t : Nat) : Nat := (x &&& (2 ^ 32 - 1 - 3 * 4 ^ d)) ||| (t * 4 ^ d)
def nxt (x d t : Nat) : Nat := setd x d t ^^^ 4096
theorem pow4 (d : Nat) : 4 ^ d = 2 ^ (2 * d) := by rw [Nat.pow_mul]
/-! the reference's small methods -/
theorem has_ok {s k : Nat} (hs : s < 2 ^ 31) (hk : k < 32) : m_X9_has (nI s) (nI k) = some (if s.testBit k then 1 else 0) := by
  unfold m_X9_has
  rw [ni_bit hs hk, tb_div]
  cases s.testBit k <;> decide +kernel
theorem lowest_loop {s : Nat} (hs : s < 64) : ∀ (r n : Nat), r ≤ 6 → r < n → L_X9_lowest_2 (nI s) n (nI (6 - r)) = some (nI (lowR s r)) := by
  intro r
  induction r with
  | zero =>
    intro n _ hn
    obtain ⟨n, rfl⟩ : ∃ k, n = k + 1 := ⟨n - 1, by omega⟩
    rw [L_X9_lowest_2.eq_2, if_pos (by decide +kernel)]
    rfl
  | succ r ih =>
    intro n hr hn
    obtain ⟨n, rfl⟩ : ∃ k, n = k + 1 := ⟨n - 1, by omega⟩
    rw [L_X9_lowest_2.eq_2, if_neg (by rw [show (6 : Int32) = nI 6 from rfl, nI_leI (by omega) (by omega)]; omega), has_ok (by omega) (by omega)]
    have e : 6 - (r + 1) = 5 - r := by omega
    rw [e]
    show (if (if s.testBit (5 - r) then (1 : Int32) else 0) = 0 then L_X9_lowest_2 (nI s) n (nI (5 - r) + 1) else some (nI (5 - r))) = _
    rw [lowR]
    cases s.testBit (5 - r) with
    | true => rw [if_neg (by decide +kernel)]; rfl
    | false =>
      rw [if_pos (by decide +kernel), nI_1, show 5 - r + 1 = 6 - r by omega]
      exact ih n (by omega) (by omega)
theorem lowest_ok {s : Nat} (hs : s < 64) : m_X9_lowest (nI s) = some (nI (low s)) := by
  unfold m_X9_lowest
  have := lowest_loop hs 6 fu (by omega) (by decide)
  rw [show 6 - 6 = 0 from rfl, nI_0] at this
  rw [this]; rfl
theorem bits_all : ∀ s, s < 64 → m_X9_bits (nI s) = some (nI (bc s)) := by decide +kernel
theorem pegIn_ok {x d : Nat} (hx : x < 2 ^ 31) (hd : d < 16) : m_X9_pegIn (nI x) (nI d) = some (nI (pgx x d)) := by
  unfold m_X9_pegIn
  rw [show (2 : Int32) = nI 2 from rfl, pk_mul, ni_shr hx (by omega)]
  congr 1
  rw [pk_andN (k := 2) (by have := Nat.div_le_self x (2 ^ (2 * d)); omega) (by decide +kernel)]
  unfold pgx
  rw [pow4]
