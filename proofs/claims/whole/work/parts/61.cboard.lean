/-! the class's boards -/
def bC (g : Nat → Int32) : va_E := .inr (2, [.int (g 0), .int (g 1), .int (g 2), .int (g 3), .int (g 4), .int (g 5)])
/-- cell c is a board with these numbers -/
def BH (N : Nat) (τ : Hp) (c : Nat) (g : Nat → Int32) : Prop := c < N ∧ τ c = bC g
/-- the law of a board: pegs, discs, high, kinds -/
def BL (g : Nat → Int32) (P H D : Nat) (kd : Nat → Nat) : Prop := g 0 = nI P ∧ g 1 = nI D ∧ g 2 = nI H ∧ P ≤ 4 ∧ D ≤ 6 ∧ H ≤ 6 ∧ (∃ K, g 4 = nI K ∧ K < 2 ^ 18 ∧ ∀ d, d < 6 → K / 8 ^ d % 8 = kd d) ∧ ∀ d, d < D → 1 ≤ kd d ∧ kd d ≤ 5
theorem peg_bits {x d : Nat} (hx : x < 2 ^ 31) (hd : d < 16) : (nI x >>> ((2 * nI d) &&& 31)) &&& 3 = nI (pgx x d) := by
  rw [show (2 : Int32) = nI 2 from rfl, pk_mul, ni_shr hx (by omega)]
  rw [pk_andN (k := 2) (by have := Nat.div_le_self x (2 ^ (2 * d)); omega) (by decide +kernel)]
  unfold pgx; rw [pow4]
theorem low_min : ∀ s, s < 64 → ∀ d, d < 6 → d < low s → s.testBit d = false := by decide +kernel
theorem low_le' : ∀ th, th < 64 → ∀ d, d < 6 → (th % 2 ^ d = 0 ↔ ¬ low th < d) := by decide +kernel
theorem low_six : ∀ s, s < 64 → (low s = 6 ↔ s = 0) := by decide +kernel
theorem apart_t : ∀ p, p < 4 → ∀ q, q < 4 → (nI p - nI q = 1 ↔ p = q + 1) ∧ (nI p - nI q = -1 ↔ q = p + 1) := by decide +kernel
/-- six bits a peg -/
def LI (x : Nat) : Nat → Nat
  | 0 => 0
  | n + 1 => LI x n ||| 2 ^ (6 * pgx x n + n)
theorem LI_lt (x : Nat) : ∀ n, n ≤ 6 → LI x n < 2 ^ 24 := by
  intro n
  induction n with
  | zero => intro _; exact Nat.pow_pos (by omega)
  | succ n ih =>
    intro hn
    have := pgx_lt x n
    rw [LI]
    exact Nat.or_lt_two_pow (ih (by omega)) (Nat.pow_lt_pow_right (by omega) (by omega))
theorem LI_tb (x p d : Nat) (hd : d < 6) : ∀ n, n ≤ 6 → (LI x n).testBit (6 * p + d) = decide (d < n ∧ pgx x d = p) := by
  intro n
  induction n with
  | zero => intro _; rw [LI, Nat.zero_testBit]; simp
  | succ n ih =>
    intro hn
    rw [LI, Nat.testBit_or, ih (by omega), Nat.testBit_two_pow]
    apply Bool.eq_iff_iff.mpr
    rw [Bool.or_eq_true, decide_eq_true_iff, decide_eq_true_iff, decide_eq_true_iff]
    constructor
    · rintro (⟨h1, h2⟩ | h)
      · exact ⟨by omega, h2⟩
      · have : n = d := by omega
        subst this
        exact ⟨by omega, by omega⟩
    · rintro ⟨h1, h2⟩
      by_cases c : d = n
      · subst c; right; rw [h2]
      · left; exact ⟨by omega, h2⟩
theorem LI_on {x p D : Nat} (hD : D ≤ 6) (hp : p < 4) : LI x D / 2 ^ (6 * p) % 64 = lset x p D := by
  apply Nat.eq_of_testBit_eq
  intro d
  rw [show (64 : Nat) = 2 ^ 6 from rfl, Nat.testBit_mod_two_pow, Nat.testBit_div_two_pow]
  by_cases c : d < 6
  · rw [decide_eq_true c, Bool.true_and, Nat.add_comm d, LI_tb x p d c D hD, lset_tb]
  · rw [decide_eq_false c, Bool.false_and, lset_tb, decide_eq_false (by omega)]
theorem on_bits {L p : Nat} (hL : L < 2 ^ 24) (hp : p < 4) : (nI L >>> ((6 * nI p) &&& 31)) &&& 63 = nI (L / 2 ^ (6 * p) % 64) := by
  rw [show (6 : Int32) = nI 6 from rfl, pk_mul, ni_shr (by omega) (by omega)]
  exact pk_andN (k := 6) (by have := Nat.div_le_self L (2 ^ (6 * p)); omega) (by decide +kernel)
theorem pgx_mod {x d : Nat} (hd : d < 6) : pgx (x % 4096) d = pgx x d := by
  unfold pgx
  rcases (show d = 0 ∨ d = 1 ∨ d = 2 ∨ d = 3 ∨ d = 4 ∨ d = 5 by omega) with rfl | rfl | rfl | rfl | rfl | rfl <;> omega
theorem lset_mod {x p D : Nat} (hD : D ≤ 6) : lset (x % 4096) p D = lset x p D := by
  apply Nat.eq_of_testBit_eq
  intro d
  rw [lset_tb, lset_tb]
  by_cases c : d < D
  · rw [pgx_mod (by omega)]
  · rw [decide_eq_false (by omega), decide_eq_false (by omega)]
section CB
variable {N : Nat} {τ : Hp} {c : Nat} {g : Nat → Int32} {P H D : Nat} {kd : Nat → Nat}
theorem BH.rv (h : BH N τ c g) : rv N τ c 2 = some () := rv_of h.1 h.2
theorem BH.i0 (h : BH N τ c g) : gI N τ c 2 0 = some (g 0) := gI_of h.1 h.2 rfl
theorem BH.i1 (h : BH N τ c g) : gI N τ c 2 1 = some (g 1) := gI_of h.1 h.2 rfl
theorem BH.i2 (h : BH N τ c g) : gI N τ c 2 2 = some (g 2) := gI_of h.1 h.2 rfl
theorem BH.i3 (h : BH N τ c g) : gI N τ c 2 3 = some (g 3) := gI_of h.1 h.2 rfl
theorem BH.i4 (h : BH N τ c g) : gI N τ c 2 4 = some (g 4) := gI_of h.1 h.2 rfl
theorem BH.i5 (h : BH N τ c g) : gI N τ c 2 5 = some (g 5) := gI_of h.1 h.2 rfl
theorem BH.put (h : BH N τ c g) {j : Nat} (hj : j < 6) (v : Int32) : pV N τ c 2 j (.int v) = some (va_up τ c (bC (upd g j v))) := by
  rw [pV_of h.1 h.2 (by show j < 6; exact hj)]
  congr 2
  rcases (show j = 0 ∨ j = 1 ∨ j = 2 ∨ j = 3 ∨ j = 4 ∨ j = 5 by omega) with rfl | rfl | rfl | rfl | rfl | rfl <;> rfl
theorem BH.up (h : BH N τ c g) (g' : Nat → Int32) : BH N (va_up τ c (bC g')) c g' := ⟨h.1, vup_s⟩
theorem BH.ne (h : BH N τ c g) {c' : Nat} (hc : c ≠ c') (e : va_E) : BH N (va_up τ c' e) c g := ⟨h.1, by rw [vup_n hc]; exact h.2⟩
theorem bC_eq {g g' : Nat → Int32} (h : ∀ j, j < 6 → g j = g' j) : bC g = bC g' := by
  unfold bC; rw [h 0 (by omega), h 1 (by omega), h 2 (by omega), h 3 (by omega), h 4 (by omega), h 5 (by omega)]
theorem kindOf_ok (h : BH N τ c g) (hL : BL g P H D kd) {d : Nat} (hd : d < D) : m_X2_kindOf N τ c (nI d) = some (nI (kd d)) := by
  obtain ⟨_, _, _, _, h6, _, ⟨K, k1, k2, k3⟩, hk⟩ := hL
  unfold m_X2_kindOf
  rw [h.rv, h.i4, k1]
  simp only [Option.bind_some]
  rw [show (3 : Int32) = nI 3 from rfl, pk_mul, ni_shr (by omega) (by omega), pk_andN (m := 7) (k := 3) (by have := Nat.div_le_self K (2 ^ (3 * d)); omega) (by decide +kernel), lt, show K / 2 ^ (3 * d) % 2 ^ 3 = kd d by rw [← k3 d (by omega), show 8 ^ d = 2 ^ (3 * d) by rw [Nat.pow_mul]]]
  have := hk d hd
  rw [if_pos (show nI (kd d) ≤ 5 by rw [show (5 : Int32) = nI 5 from rfl, nI_leI (by omega) (by omega)]; exact this.2)]
theorem lyingIn_loop (h : BH N τ c g) (hD : g 1 = nI D) (h6 : D ≤ 6) {x : Nat} (hx : x < 8192) : ∀ (r n j : Nat), j + r = D → r < n → L_X2_lyingIn_4 N τ c (nI x) n (nI (LI x j)) (nI j) = some (nI (LI x D)) := by
  intro r
  induction r with
  | zero =>
    intro n j hj hn
    obtain ⟨n, rfl⟩ : ∃ k, n = k + 1 := ⟨n - 1, by omega⟩
    obtain rfl : j = D := by omega
    rw [L_X2_lyingIn_4.eq_2, h.i1, hD]
    simp only [Option.bind_some]
    rw [if_pos (nI_le (Nat.le_refl _) (by omega))]
  | succ r ih =>
    intro n j hj hn
    obtain ⟨n, rfl⟩ : ∃ k, n = k + 1 := ⟨n - 1, by omega⟩
    have hp := pgx_lt x j
    rw [L_X2_lyingIn_4.eq_2, h.i1, hD]
    simp only [Option.bind_some]
    rw [if_neg (nI_ge (by omega) (by omega)), peg_bits (by omega) (by omega), show (6 : Int32) = nI 6 from rfl, pk_mul, nI_add, show (1 : Int32) <<< (nI (6 * pgx x j + j) &&& 31) = nI (2 ^ (6 * pgx x j + j)) by
      rw [show (1 : Int32) = nI 1 from rfl, ni_shl (by omega) (by rw [Nat.one_mul]; exact Nat.pow_lt_pow_right (by omega) (by omega)), Nat.one_mul], ni_or, lt, nI_1]
    exact ih n (j + 1) (by omega) (by omega)
theorem lyingIn_ok (h : BH N τ c g) (hD : g 1 = nI D) (h6 : D ≤ 6) {x : Nat} (hx : x < 8192) : m_X2_lyingIn N τ c (nI x) = some (nI (LI x D)) := by
  unfold m_X2_lyingIn
  rw [h.rv]
  simp only [Option.bind_some]
  have := lyingIn_loop h hD h6 hx D fu 0 (by omega) (by show _ < 20000; omega)
  rw [show LI x 0 = 0 from rfl, nI_0] at this
  rw [this]
  rfl
/-- whether a disc may go where th lie -/
theorem mayGo_ok (h : BH N τ c g) (hL : BL g P H D kd) {d p q th : Nat} (hd : d < D) (hp : p < 4) (hq : q < 4) (ht : th < 64) (odd : Bool) : m_X2_mayGo N τ c (nI d) (nI p - nI q) (nI th) (bI odd) = some (if low th < d ∨ may H (kd d) d p q th odd = false then 0 else 1) := by
  have hLL := hL
  obtain ⟨_, _, l3, _, h6, hH, _, hk⟩ := hL
  obtain ⟨k1, k2⟩ := hk d hd
  have hbc := bc_le th
  unfold m_X2_mayGo
  rw [h.rv]
  simp only [Option.bind_some]
  rw [show (1 : Int32) <<< (nI d &&& 31) = nI (2 ^ d) by rw [show (1 : Int32) = nI 1 from rfl, ni_shl (by omega) (by rw [Nat.one_mul]; exact Nat.pow_lt_pow_right (by omega) (by omega)), Nat.one_mul], show nI (2 ^ d) - 1 = nI (2 ^ d - 1) by rw [show (1 : Int32) = nI 1 from rfl, pk_sub (Nat.pow_pos (by omega))], ni_and, Nat.and_two_pow_sub_one_eq_mod]
  have hlo := low_le' th ht d (by omega)
  have hmt := Nat.mod_lt th (show 0 < 2 ^ d from Nat.pow_pos (by omega))
  have hm64 := Nat.mod_le th (2 ^ d)
  by_cases c1 : low th < d
  · rw [if_neg (show ¬ nI (th % 2 ^ d) = 0 from nI_ne0 (by
      have : th % 2 ^ d ≠ 0 := fun e => hlo.mp e c1
      omega) (by omega)), if_pos (show low th < d ∨ may H (kd d) d p q th odd = false from Or.inl c1)]
  · rw [if_pos (show nI (th % 2 ^ d) = 0 by rw [hlo.mpr c1]; rfl), kindOf_ok h hLL hd]
    simp only [Option.bind_some]
    have e0 : (if low th < d ∨ may H (kd d) d p q th odd = false then (0 : Int32) else 1) = if may H (kd d) d p q th odd = true then 1 else 0 := by
      cases may H (kd d) d p q th odd <;> simp [c1]
    rw [e0]
    obtain ⟨a1, a2⟩ := apart_t p hp q hq
    have hap : (nI p - nI q = 1 ∨ nI p - nI q = -1) ↔ (p = q + 1 ∨ q = p + 1) := by rw [a1, a2]
    rw [h.i2, l3, bcnt_64 th ht]
    simp only [Option.bind_some]
    unfold may
    rcases (show kd d = 1 ∨ kd d = 2 ∨ kd d = 3 ∨ kd d = 4 ∨ kd d = 5 by omega) with e | e | e | e | e
    · rw [e]; simp [nI]
    · rw [e, if_pos (show nI 2 = 2 from rfl)]
      by_cases b1 : p = q + 1
      · rw [if_pos (a1.mpr b1)]; simp [b1]
      · rw [if_neg (fun e => b1 (a1.mp e))]
        by_cases b2 : q = p + 1
        · rw [if_pos (a2.mpr b2)]; simp [b2]
        · rw [if_neg (fun e => b2 (a2.mp e))]; simp [b1, b2]
    · rw [e, if_neg (show ¬ nI 3 = 2 by decide +kernel), if_pos (show nI 3 = 3 from rfl), nI_1, ni_bit (by omega) (by omega), tb_div]
      cases hb : th.testBit (d + 1) with
      | true => rw [if_neg (show ¬ nI (if true = true then 1 else 0) = 0 by decide +kernel)]; simp
      | false => rw [if_pos (show nI (if false = true then 1 else 0) = 0 by decide +kernel)]; simp
    · rw [e, if_neg (show ¬ nI 4 = 2 by decide +kernel), if_neg (show ¬ nI 4 = 3 by decide +kernel), if_pos (show nI 4 = 4 from rfl)]
      by_cases b1 : bc th < H
      · rw [if_neg (show ¬ nI H ≤ nI (bc th) by rw [nI_leI (by omega) (by omega)]; omega)]; simp [b1]
      · rw [if_pos (show nI H ≤ nI (bc th) by rw [nI_leI (by omega) (by omega)]; omega)]; simp [b1]
    · rw [e, if_neg (show ¬ nI 5 = 2 by decide +kernel), if_neg (show ¬ nI 5 = 3 by decide +kernel), if_neg (show ¬ nI 5 = 4 by decide +kernel), if_pos (show nI 5 = 5 from rfl)]
      by_cases b1 : bc th < H
      · rw [if_neg (show ¬ nI H ≤ nI (bc th) by rw [nI_leI (by omega) (by omega)]; omega)]
        cases odd with
        | false => rw [if_pos (show bI false = 0 from rfl)]; simp [b1]
        | true => rw [if_neg (show ¬ bI true = 0 by decide +kernel)]; simp
      · rw [if_pos (show nI H ≤ nI (bc th) by rw [nI_leI (by omega) (by omega)]; omega)]; simp [b1]
theorem mmR_skip (x : Nat) {a : Nat} : ∀ n, (∀ k, a ≤ k → k < a + n → ¬ (k / 4 < P ∧ k % 4 < P ∧ mvr H D kd x (k / 4) (k % 4) < 6)) → mmR P H D kd x (a + n) = mmR P H D kd x a := by
  intro n h
  apply Nat.eq_of_testBit_eq
  intro k
  rw [mmR_tb, mmR_tb]
  by_cases c : k < a
  · apply Bool.eq_iff_iff.mpr
    rw [decide_eq_true_iff, decide_eq_true_iff]
    exact ⟨fun e => ⟨c, e.2⟩, fun e => ⟨by omega, e.2⟩⟩
  · apply Bool.eq_iff_iff.mpr
    rw [decide_eq_true_iff, decide_eq_true_iff]
    exact ⟨fun e => absurd e.2 (h k (by omega) e.1), fun e => absurd e.1 c⟩
/-- the moves from one peg -/
theorem mf_36 (h : BH N τ c g) (hL : BL g P H D kd) {x f : Nat} (hx : x < 8192) (hf : f < P) (h0 : lset x f D ≠ 0) : ∀ (r n j : Nat), j + r = P → r < n → L_X2_movesFrom_36 N τ c (bI (decide (4096 ≤ x))) (nI (LI x D)) (nI f) (nI (lset x f D)) n (nI (mmR P H D kd x (4 * f + j))) (nI j) = some (nI (mmR P H D kd x (4 * f + P))) := by
  have hLL := hL
  obtain ⟨l1, l2, l3, hP, h6, hH, _, hk⟩ := hL
  have hl64 : lset x f D < 64 := lset_64 h6
  have hlow : low (lset x f D) ≠ 6 := fun e => h0 ((low_six _ hl64).mp e)
  obtain ⟨d1, d2⟩ := low_D h6 hlow
  intro r
  induction r with
  | zero =>
    intro n j hj hn
    obtain ⟨n, rfl⟩ : ∃ k, n = k + 1 := ⟨n - 1, by omega⟩
    obtain rfl : j = P := by omega
    rw [L_X2_movesFrom_36.eq_2, h.i0, l1]
    simp only [Option.bind_some]
    rw [if_pos (nI_le (Nat.le_refl _) (by omega))]
  | succ r ih =>
    intro n j hj hn
    obtain ⟨n, rfl⟩ : ∃ k, n = k + 1 := ⟨n - 1, by omega⟩
    have hrec := ih n (j + 1) (by omega) (by omega)
    have hstep : mmR P H D kd x (4 * f + (j + 1)) = mmR P H D kd x (4 * f + j) ||| (if mvr H D kd x f j < 6 then 2 ^ (4 * f + j) else 0) := by
      rw [show 4 * f + (j + 1) = (4 * f + j) + 1 by omega, mmR, show (4 * f + j) / 4 = f by omega, show (4 * f + j) % 4 = j by omega]
      by_cases e : mvr H D kd x f j < 6
      · rw [if_pos e, if_pos ⟨hf, by omega, e⟩]
      · rw [if_neg e, if_neg (fun e' => e e'.2.2)]
    rw [L_X2_movesFrom_36.eq_2, h.i0, l1]
    simp only [Option.bind_some]
    rw [if_neg (nI_ge (by omega) (by omega)), if_neg (show ¬ nI (lset x f D) = 0 from nI_ne0 (by omega) (by omega)), nI_1]
    by_cases c1 : j = f
    · rw [if_pos (show nI j = nI f by rw [c1])]
      rw [hstep, if_neg (show ¬ mvr H D kd x f j < 6 by unfold mvr; rw [if_pos (Or.inl c1.symm)]; omega), Nat.or_zero] at hrec
      exact hrec
    · have hq64 : lset x j D < 64 := lset_64 h6
      rw [if_neg (show ¬ nI j = nI f from fun e => c1 ((nI_eq (by omega) (by omega)).mp e)), (least_64 _ hl64).resolve_left h0, on_bits (LI_lt x D h6) (by omega), LI_on h6 (by omega)]
      simp only [Option.bind_some]
      rw [mayGo_ok h hLL d1 (by omega) (by omega) hq64]
      simp only [Option.bind_some]
      have hm : mvr H D kd x f j < 6 ↔ ¬ (low (lset x j D) < low (lset x f D) ∨ may H (kd (low (lset x f D))) (low (lset x f D)) f j (lset x j D) (decide (4096 ≤ x)) = false) := by
        unfold mvr
        by_cases e1 : low (lset x j D) < low (lset x f D)
        · rw [if_pos (Or.inr (Or.inr e1))]; exact ⟨fun e => absurd e (by omega), fun e => absurd (Or.inl e1) e⟩
        · rw [if_neg (show ¬ (f = j ∨ low (lset x f D) = 6 ∨ low (lset x j D) < low (lset x f D)) by omega)]
          cases e2 : may H (kd (low (lset x f D))) (low (lset x f D)) f j (lset x j D) (decide (4096 ≤ x)) with
          | true => rw [if_pos rfl]; exact ⟨fun _ e => by rcases e with e | e; exact e1 e; exact absurd e (by decide), fun _ => by omega⟩
          | false => rw [if_neg (by decide)]; exact ⟨fun e => absurd e (by omega), fun e => absurd (Or.inr rfl) e⟩
      by_cases c2 : low (lset x j D) < low (lset x f D) ∨ may H (kd (low (lset x f D))) (low (lset x f D)) f j (lset x j D) (decide (4096 ≤ x)) = false
      · rw [if_pos c2, if_pos (show (0 : Int32) = 0 from rfl)]
        rw [hstep, if_neg (fun e => hm.mp e c2), Nat.or_zero] at hrec
        exact hrec
      · rw [if_neg c2, if_neg (show ¬ (1 : Int32) = 0 by decide +kernel)]
        rw [hstep, if_pos (hm.mpr c2)] at hrec
        rw [show (4 : Int32) = nI 4 from rfl, pk_mul, nI_add, show (1 : Int32) <<< (nI (4 * f + j) &&& 31) = nI (2 ^ (4 * f + j)) by
          rw [show (1 : Int32) = nI 1 from rfl, ni_shl (by omega) (by rw [Nat.one_mul]; exact Nat.pow_lt_pow_right (by omega) (by omega)), Nat.one_mul], ni_or, lt]
        exact hrec
theorem mf_12 (h : BH N τ c g) (hL : BL g P H D kd) {x : Nat} (hx : x < 8192) : ∀ (r n f : Nat), f + r = P → r < n → L_X2_movesFrom_12 N τ c (bI (decide (4096 ≤ x))) (nI (LI x D)) n (nI (mmR P H D kd x (4 * f))) (nI f) = some (nI (mmR P H D kd x (4 * P))) := by
  have hLL := hL
  obtain ⟨l1, l2, l3, hP, h6, hH, _, hk⟩ := hL
  intro r
  induction r with
  | zero =>
    intro n f hj hn
    obtain ⟨n, rfl⟩ : ∃ k, n = k + 1 := ⟨n - 1, by omega⟩
    obtain rfl : f = P := by omega
    rw [L_X2_movesFrom_12.eq_2, h.i0, l1]
    simp only [Option.bind_some]
    rw [if_pos (nI_le (Nat.le_refl _) (by omega))]
  | succ r ih =>
    intro n f hj hn
    obtain ⟨n, rfl⟩ : ∃ k, n = k + 1 := ⟨n - 1, by omega⟩
    have hrec := ih n (f + 1) (by omega) (by omega)
    rw [L_X2_movesFrom_12.eq_2, h.i0, l1]
    simp only [Option.bind_some]
    rw [if_neg (nI_ge (by omega) (by omega)), on_bits (LI_lt x D h6) (by omega), LI_on h6 (by omega), lt]
    have h36 : L_X2_movesFrom_36 N τ c (bI (decide (4096 ≤ x))) (nI (LI x D)) (nI f) (nI (lset x f D)) fu (nI (mmR P H D kd x (4 * f))) 0 = some (nI (mmR P H D kd x (4 * (f + 1)))) := by
      by_cases c0 : lset x f D = 0
      · have e : mmR P H D kd x (4 * f + 4) = mmR P H D kd x (4 * f) := mmR_skip x 4 (fun k k1 k2 => fun e => by
          have hf : k / 4 = f := by omega
          have := e.2.2
          rw [hf] at this
          unfold mvr at this
          rw [if_pos (show f = k % 4 ∨ low (lset x f D) = 6 ∨ low (lset x (k % 4) D) < low (lset x f D) from Or.inr (Or.inl (by rw [c0]; decide)))] at this
          omega)
        rw [show 4 * (f + 1) = 4 * f + 4 by omega, e, c0, show fu = 19999 + 1 from rfl, L_X2_movesFrom_36.eq_2, h.i0, l1]
        simp only [Option.bind_some]
        rw [if_neg (show ¬ nI P ≤ 0 from nI_nle (by omega) (by omega)), if_pos (show nI 0 = 0 from rfl)]
      · have := mf_36 h hLL hx (show f < P by omega) c0 P fu 0 (by omega) (by show _ < 20000; omega)
        rw [Nat.add_zero, nI_0] at this
        rw [this, show 4 * (f + 1) = (4 * f + P) + (4 - P) by omega, mmR_skip x (4 - P) (fun k k1 k2 e => by omega)]
    rw [h36]
    simp only [Option.bind_some]
    rw [nI_1]
    exact hrec
theorem movesFrom_ok (h : BH N τ c g) (hL : BL g P H D kd) {x : Nat} (hx : x < 8192) : m_X2_movesFrom N τ c (nI (x % 4096)) (bI (decide (4096 ≤ x))) = some (nI (mms P H D kd x)) := by
  have hLL := hL
  obtain ⟨l1, l2, l3, hP, h6, hH, _, hk⟩ := hL
  unfold m_X2_movesFrom
  have e : LI (x % 4096) D = LI x D := by
    have : ∀ n, n ≤ 6 → LI (x % 4096) n = LI x n := by
      intro n
      induction n with
      | zero => intro _; rfl
      | succ n ih => intro hn; rw [LI, LI, ih (by omega), pgx_mod (by omega)]
    exact this D h6
  rw [h.rv, lyingIn_ok h l2 h6 (show x % 4096 < 8192 by omega), e]
  simp only [Option.bind_some]
  have := mf_12 h hLL hx P fu 0 (by omega) (by show _ < 20000; omega)
  rw [show mmR P H D kd x (4 * 0) = 0 from rfl, nI_0] at this
  rw [this]
  simp only [Option.bind_some]
  congr 2
  unfold mms
  rw [show 16 = 4 * P + (16 - 4 * P) by omega, mmR_skip x (16 - 4 * P) (fun k k1 k2 e => by omega)]
/-- the arrangement behind a move -/
theorem bhd_mod {x k : Nat} (hx : x < 8192) (hk : lgl P H D kd x k = true) : bhd H D kd x k % 4096 = setd (x % 4096) (mvr H D kd x (k / 4) (k % 4)) (k % 4) := by
  obtain ⟨k1, k2, k3, k4⟩ := (lgl_iff P H D kd x k).mp hk
  apply Nat.eq_of_testBit_eq
  intro i
  unfold bhd
  rw [show (4096 : Nat) = 2 ^ 12 from rfl, Nat.testBit_mod_two_pow, nxt_tb, setd_tb (by omega) k4 (Nat.mod_lt _ (by omega)), setd_tb (by omega) k4 (Nat.mod_lt _ (by omega)), Nat.testBit_mod_two_pow]
  by_cases c : i < 12
  · rw [decide_eq_true c, Bool.true_and, Bool.true_and, decide_eq_false (show ¬ i = 12 by omega)]
    simp
  · rw [decide_eq_false c, Bool.false_and, Bool.false_and, if_neg (by omega)]
theorem setd_ints {x d t : Nat} (hx : x < 8192) (hd : d < 6) (ht : t < 4) {v : Int32} (hv : v &&& 3 = nI t) : (nI x &&& (((3 : Int32) <<< ((2 * nI d) &&& 31)) ^^^ (-1))) ||| ((v &&& 3) <<< ((2 * nI d) &&& 31)) = nI (setd x d t) := by
  have h4 : 4 ^ d ≤ 4 ^ 5 := Nat.pow_le_pow_right (by omega) (by omega)
  have h45 : 4 ^ 5 = 1024 := rfl
  rw [hv, show (2 : Int32) = nI 2 from rfl, pk_mul, show (3 : Int32) = nI 3 from rfl, ni_shl (by omega) (by rw [← pow4]; omega), ni_shl (by omega) (by
    rw [← pow4]
    have : t * 4 ^ d ≤ 3 * 4 ^ d := Nat.mul_le_mul_right _ (by omega)
    omega), ← pow4, ni_not (by omega), ni_and, ni_or]
  rfl
theorem behind_loop (h : BH N τ c g) (hD : g 1 = nI D) (h6 : D ≤ 6) {a k p d0 : Nat} (ha : a < 4096) (hk : k < 16) (h1 : d0 < D) (h2 : pgx a d0 = p) (h3 : ∀ d, d < d0 → pgx a d ≠ p) : ∀ (r n d : Nat), d + r = d0 → r < n → L_X2_behind_9 N τ c (nI a) (nI k) (nI p) n (nI d) = some (.inr (nI (setd a d0 (k % 4)))) := by
  have hp : p < 4 := by rw [← h2]; exact pgx_lt a d0
  intro r
  induction r with
  | zero =>
    intro n d hd hn
    obtain ⟨n, rfl⟩ : ∃ k, n = k + 1 := ⟨n - 1, by omega⟩
    obtain rfl : d = d0 := by omega
    rw [L_X2_behind_9.eq_2, h.i1, hD]
    simp only [Option.bind_some]
    rw [if_neg (nI_ge (by omega) (by omega)), peg_bits (by omega) (by omega), h2, if_pos rfl, setd_ints (by omega) (by omega) (Nat.mod_lt k (by omega)) (pk_andN (m := 3) (k := 2) (by omega) (by decide +kernel))]
  | succ r ih =>
    intro n d hd hn
    obtain ⟨n, rfl⟩ : ∃ k, n = k + 1 := ⟨n - 1, by omega⟩
    have hpd := pgx_lt a d
    rw [L_X2_behind_9.eq_2, h.i1, hD]
    simp only [Option.bind_some]
    rw [if_neg (nI_ge (by omega) (by omega)), peg_bits (by omega) (by omega), if_neg (show ¬ nI (pgx a d) = nI p from fun e => h3 d (by omega) ((nI_eq (by omega) (by omega)).mp e)), nI_1]
    exact ih n (d + 1) (by omega) (by omega)
theorem cbehind_ok (h : BH N τ c g) (hL : BL g P H D kd) {x k : Nat} (hx : x < 8192) (hk : lgl P H D kd x k = true) : m_X2_behind N τ c (nI (x % 4096)) (nI k) = some (nI (bhd H D kd x k % 4096)) := by
  obtain ⟨l1, l2, l3, hP, h6, hH, _, _⟩ := hL
  obtain ⟨k1, k2, k3, k4⟩ := (lgl_iff P H D kd x k).mp hk
  obtain ⟨m1, m2⟩ := mvr_D h6 k4
  rw [bhd_mod hx hk]
  have hlow : mvr H D kd x (k / 4) (k % 4) = low (lset x (k / 4) D) := by
    unfold mvr at k4 ⊢
    split at k4
    · exact absurd k4 (by omega)
    · next e1 =>
      split at k4
      · next e2 => rw [if_neg e1, if_pos e2]
      · exact absurd k4 (by omega)
  have hmin : ∀ d, d < mvr H D kd x (k / 4) (k % 4) → pgx (x % 4096) d ≠ k / 4 := fun d hd e => by
    rw [hlow] at hd
    have h6' := low_le (lset x (k / 4) D)
    have := low_min (lset x (k / 4) D) (lset_64 h6) d (by omega) hd
    rw [lset_tb] at this
    have hn := of_decide_eq_false this
    rw [pgx_mod (by omega)] at e
    exact hn ⟨by omega, e⟩
  unfold m_X2_behind
  rw [h.rv]
  simp only [Option.bind_some]
  rw [show (nI k >>> ((2 : Int32) &&& 31)) &&& 3 = nI (k / 4) by
    rw [show (2 : Int32) = nI 2 from rfl, ni_shr (by omega) (by omega), pk_andN (m := 3) (k := 2) (by have := Nat.div_le_self k (2 ^ 2); omega) (by decide +kernel)]
    congr 1; rw [show (2 : Nat) ^ 2 = 4 from rfl]; omega, lt]
  have := behind_loop h l2 h6 (show x % 4096 < 4096 by omega) k1 m1 (by rw [pgx_mod (by omega)]; exact m2) hmin (mvr H D kd x (k / 4) (k % 4)) fu 0 (by omega) (by show _ < 20000; omega)
  rw [nI_0] at this
  rw [this]
  rfl
end CB
