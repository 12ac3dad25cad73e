/-! the reference: disc, peg, count, feed -/
/-- pegs below n to which a disc that lies on p may be moved -/
def dsR (b : AB) (d : Nat) (top : Bool) : Nat → Nat
  | 0 => 0
  | n + 1 => dsR b d top n ||| (if top = true ∧ mvr b.H b.D b.kd (stx b) (b.pg d) n = d then 2 ^ n else 0)
theorem dsR_lt (b : AB) (d : Nat) (top : Bool) (n : Nat) : dsR b d top n < 2 ^ n := by
  induction n with
  | zero => exact Nat.one_pos
  | succ n ih =>
    rw [dsR]
    have h1 : dsR b d top n < 2 ^ (n + 1) := Nat.lt_of_lt_of_le ih (Nat.pow_le_pow_right (by omega) (by omega))
    have h2 : (if top = true ∧ mvr b.H b.D b.kd (stx b) (b.pg d) n = d then 2 ^ n else 0) < 2 ^ (n + 1) := by
      split
      · exact Nat.pow_lt_pow_right (by omega) (by omega)
      · exact Nat.pow_pos (by omega)
    exact Nat.or_lt_two_pow h1 h2
def isTop (b : AB) (d : Nat) : Bool := low (lset (stx b) (b.pg d) b.D) == d
def o_disc (s : AS) (d w : Int32) : Int32 :=
  if isD s d then (if 0 ≤ w ∧ w ≤ 2 then (if w = 0 then nI (s.bd.pg (nt d)) else if w = 1 then (if isTop s.bd (nt d) then 1 else 0) else nI (dsR s.bd (nt d) (isTop s.bd (nt d)) s.bd.P)) else -1000001) else -1000001
def o_peg (s : AS) (p w : Int32) : Int32 :=
  if isP s p then (if 0 ≤ w ∧ w ≤ 2 then (if w = 0 then nI (bc (lset (stx s.bd) (nt p) s.bd.D)) else if w = 1 then nI (lset (stx s.bd) (nt p) s.bd.D) else if lset (stx s.bd) (nt p) s.bd.D = 0 then -1000000 else nI (low (lset (stx s.bd) (nt p) s.bd.D))) else -1000001) else -1000001
def cntR (l : Nat → Int32) : Nat → Nat
  | 0 => 0
  | n + 1 => cntR l n + (if l n = -1 then 0 else 1)
theorem cntR_le (l : Nat → Int32) (n : Nat) : cntR l n ≤ n := by
  induction n with
  | zero => exact Nat.le_refl _
  | succ n ih => rw [cntR]; split <;> omega
def o_count (s : AS) (w : Int32) : Int32 :=
  if w = 0 then nI (cntR s.lane 8) else if w = 1 then nI s.bd.P else if w = 2 then nI s.bd.D else if w = 3 then nI s.bd.M else if w = 4 then nI s.bd.H else if w = 5 then nI s.na else if w = 6 then nI s.tl else if w = 7 then nI (cod (arn s.bd) s.bd.D) else -1000001
def AS.fed (s : AS) (n : Nat) (t : Nat → Nat) : AS := (s.1, s.2.1, s.2.2.1, s.found, n, t, s.2.2.2.2.2.2)
def o_feed (s : AS) (x : Int32) : Int32 × AS := if 0 ≤ x ∧ x ≤ 255 then (if s.tl = 60 then (-1000003, s) else (nI (s.tl + 1), s.fed (s.tl + 1) (va_up s.tb s.tl (nt x)))) else (-1000001, s)
theorem cod_par {x D : Nat} (h : D ≤ 6) : cod (4096 + x) D = cod x D := by
  have key : ∀ d, d < 6 → pgx (4096 + x) d = pgx x d := by
    intro d hd
    unfold pgx
    rcases (show d = 0 ∨ d = 1 ∨ d = 2 ∨ d = 3 ∨ d = 4 ∨ d = 5 by omega) with rfl | rfl | rfl | rfl | rfl | rfl <;> omega
  have : ∀ r, r ≤ D → cdR (4096 + x) D r = cdR x D r := by
    intro r
    induction r with
    | zero => intro _; rfl
    | succ r ih => intro hr; rw [cdR, cdR, ih (by omega), key _ (by omega)]
  exact this D (Nat.le_refl _)
theorem cod_stx {b : AB} (h : b.D ≤ 6) : cod (stx b) b.D = cod (arn b) b.D := by
  unfold stx
  split
  · exact cod_par h
  · rw [Nat.zero_add]
theorem i2 {k : Int32} (h : 0 ≤ k ∧ k ≤ 2) : ∃ u, u < 3 ∧ k = nI u := by
  obtain ⟨u, h1, h2⟩ := ni_of (n := 2) (by omega) h.1 h.2
  exact ⟨u, by omega, h2⟩
section MP
variable {N m : Nat} {f : Nat → Int32} {a : Nat → Nat → Int32} {b : Nat → Nat → Int64} {s : AS} {σ : Hp}
theorem disc_loop (hN : 66 ≤ N) {bd : AB} (hB : ABm (a 58) 0 bd) (hV : VB m bd) (hT : Told f (a 58) bd.P bd.H bd.D bd.kd) {d : Nat} (hd : d < bd.D) (top : Bool) (v2 : Int32) : ∀ (r n j : Nat), j + r = bd.P → r < n → L_X9_disc_66 N (MH σ f a b) 53 (nI d) v2 (nI (stx bd)) (if top then 1 else 0) n (nI (dsR bd d top j)) (nI j) = some (nI (dsR bd d top bd.P)) := by
  obtain ⟨h4, h6, hP, _⟩ := hV.d4
  intro r
  induction r with
  | zero =>
    intro n j hj hn
    obtain ⟨n, rfl⟩ : ∃ k, n = k + 1 := ⟨n - 1, by omega⟩
    obtain rfl : j = bd.P := by omega
    rw [L_X9_disc_66.eq_2]
    simp only [MH_rv hN, MH_f3 hN, MH_f4 hN, MH_f6 hN, MH_f7 hN, MH_f8 hN, MH_f9 hN, MH_f11 hN, MH_f16 hN, MH_f19 hN, MH_f20 hN, MH_f21 hN, MH_f23 hN, MH_r0 hN, MH_r1 hN, MH_r2 hN, MH_r5 hN, MH_r10 hN, MH_r12 hN, MH_r13 hN, MH_r14 hN, MH_r15 hN, MH_r17 hN, MH_r18 hN, MH_r22 hN, Option.bind_some]
    rw [show aI 0 N (MH σ f a b) 58 0 = some (a 58 0) from MH_a58 (k := 0) hN (by omega)]
    simp only [Option.bind_some]
    rw [show a 58 0 = nI bd.P from hB.1, if_pos (nI_le (Nat.le_refl _) (by omega))]
  | succ r ih =>
    intro n j hj hn
    obtain ⟨n, rfl⟩ : ∃ k, n = k + 1 := ⟨n - 1, by omega⟩
    have hw := ih n (j + 1) (by omega) (by omega)
    have e : dsR bd d top (j + 1) = dsR bd d top j ||| (if top = true ∧ mvr bd.H bd.D bd.kd (stx bd) (bd.pg d) j = d then 2 ^ j else 0) := rfl
    rw [e] at hw
    rw [L_X9_disc_66.eq_2]
    simp only [MH_rv hN, MH_f3 hN, MH_f4 hN, MH_f6 hN, MH_f7 hN, MH_f8 hN, MH_f9 hN, MH_f11 hN, MH_f16 hN, MH_f19 hN, MH_f20 hN, MH_f21 hN, MH_f23 hN, MH_r0 hN, MH_r1 hN, MH_r2 hN, MH_r5 hN, MH_r10 hN, MH_r12 hN, MH_r13 hN, MH_r14 hN, MH_r15 hN, MH_r17 hN, MH_r18 hN, MH_r22 hN, Option.bind_some]
    rw [show aI 0 N (MH σ f a b) 58 0 = some (a 58 0) from MH_a58 (k := 0) hN (by omega)]
    simp only [Option.bind_some]
    rw [show a 58 0 = nI bd.P from hB.1, if_neg (nI_ge (by omega) (by omega))]
    cases top with
    | false =>
      rw [if_pos (show (if false = true then (1 : Int32) else 0) = 0 by decide +kernel), show (0 : Int32) = nI 0 from rfl, ni_or, nI_1]
      rw [if_neg (show ¬ (false = true ∧ mvr bd.H bd.D bd.kd (stx bd) (bd.pg d) j = d) from fun g => by cases g.1)] at hw
      exact hw
    | true =>
      rw [if_neg (show ¬ (if true = true then (1 : Int32) else 0) = 0 by decide +kernel), show (10 : Int32) = nI 10 from rfl, nI_add, MH_a58 hN (by omega)]
      simp only [Option.bind_some]
      have e1 := (hB.2.2.2.2 d (by omega)).2
      rw [show 16 * 0 + 10 + d = 10 + d by omega] at e1
      rw [e1, mover_ok hN hT (stx_lt hV) (h4 d) (by omega)]
      simp only [Option.bind_some]
      have hm := mvr_le bd.H bd.D bd.kd (stx bd) (bd.pg d) j
      by_cases c : mvr bd.H bd.D bd.kd (stx bd) (bd.pg d) j = d
      · rw [if_pos (show nI (mvr bd.H bd.D bd.kd (stx bd) (bd.pg d) j) = nI d by rw [c]), lt, show (1 : Int32) = nI 1 from rfl, ni_shl (by omega) (by rw [Nat.one_mul]; exact Nat.pow_lt_pow_right (by omega) (by omega)), ni_or, nI_add, Nat.one_mul]
        rw [if_pos (show true = true ∧ mvr bd.H bd.D bd.kd (stx bd) (bd.pg d) j = d from ⟨rfl, c⟩)] at hw
        exact hw
      · rw [if_neg (ni_ne (by omega) (by omega) c), show (0 : Int32) = nI 0 from rfl, ni_or, nI_1]
        rw [if_neg (show ¬ (true = true ∧ mvr bd.H bd.D bd.kd (stx bd) (bd.pg d) j = d) from fun g => c g.2)] at hw
        exact hw
theorem mo_disc (hN : 66 ≤ N) (h : RM f a s) (hv : VA m s) (hm : m < 2 ^ 30) (d w : Int32) : MOp N f a b (fun σ => m_X9_disc N σ 53 d w) (o_disc s d w) s := by
  intro σ
  show ∃ f' a' b', m_X9_disc N (MH σ f a b) 53 d w = _ ∧ _
  have hV := hv.2.2.1
  obtain ⟨h4, h6, hP4, _, hM, _⟩ := hV.d4
  unfold m_X9_disc o_disc
  simp only [MH_rv hN, MH_f3 hN, MH_f4 hN, MH_f6 hN, MH_f7 hN, MH_f8 hN, MH_f9 hN, MH_f11 hN, MH_f16 hN, MH_f19 hN, MH_f20 hN, MH_f21 hN, MH_f23 hN, MH_r0 hN, MH_r1 hN, MH_r2 hN, MH_r5 hN, MH_r10 hN, MH_r12 hN, MH_r13 hN, MH_r14 hN, MH_r15 hN, MH_r17 hN, MH_r18 hN, MH_r22 hN, Option.bind_some, isDisc_ok hN h hv, ite10]
  by_cases c1 : isD s d
  · rw [if_pos c1, if_pos c1, show (0 : Int64) = (0 : Int32).toInt64 by decide +kernel, show (2 : Int64) = (2 : Int32).toInt64 by decide +kernel, i64_in]
    simp only [Option.bind_some, ite10]
    by_cases c2 : 0 ≤ w ∧ w ≤ 2
    · rw [if_pos c2, if_pos c2]
      obtain ⟨u, hu, rfl⟩ := lt_of (by omega) c1
      have hB := h.2.2.2.2.1
      have hT := told_of (f := f) hB hV
      rw [asTold_ok hN]
      simp only [Option.bind_some]
      rw [state_ok hN hB hV hm]
      simp only [MH_rv hN, MH_f3 hN, MH_f4 hN, MH_f6 hN, MH_f7 hN, MH_f8 hN, MH_f9 hN, MH_f11 hN, MH_f16 hN, MH_f19 hN, MH_f20 hN, MH_f21 hN, MH_f23 hN, MH_r0 hN, MH_r1 hN, MH_r2 hN, MH_r5 hN, MH_r10 hN, MH_r12 hN, MH_r13 hN, MH_r14 hN, MH_r15 hN, MH_r17 hN, MH_r18 hN, MH_r22 hN, Option.bind_some]
      rw [show (10 : Int32) = nI 10 from rfl, nI_add, MH_a58 hN (by omega)]
      simp only [Option.bind_some]
      have e1 := (hB.2.2.2.2 u (by omega)).2
      rw [show 16 * 0 + 10 + u = 10 + u by omega] at e1
      rw [e1, lying_ok hN hB.2.2.1 h6 (stx_lt hV) (by have := h4 u; omega)]
      simp only [Option.bind_some]
      rw [lowest_ok (lset_64 h6), nt_nI (by omega)]
      simp only [Option.bind_some]
      have hlo := low_le (lset (stx s.bd) (s.bd.pg u) s.bd.D)
      have et : ((if nI (low (lset (stx s.bd) (s.bd.pg u) s.bd.D)) = nI u then some (1 : Int32) else some 0) : Option Int32) = some (if isTop s.bd u then 1 else 0) := by
        unfold isTop
        by_cases c : low (lset (stx s.bd) (s.bd.pg u) s.bd.D) = u
        · rw [if_pos (show nI (low (lset (stx s.bd) (s.bd.pg u) s.bd.D)) = nI u by rw [c]), if_pos (by simp [c])]
        · rw [if_neg (ni_ne (by omega) (by omega) c), if_neg (by simp [c])]
      rw [et]
      simp only [Option.bind_some]
      have hl := disc_loop (N := N) (σ := σ) (b := b) hN hB hV hT hu (isTop s.bd u) w s.bd.P fu 0 (by omega) (Nat.lt_of_le_of_lt hP4 (by decide))
      rw [show dsR s.bd u (isTop s.bd u) 0 = 0 from rfl, nI_0] at hl
      rw [hl]
      simp only [Option.bind_some]
      by_cases c3 : w = 0
      · rw [if_pos c3, if_pos c3]; exact ⟨_, a, b, rfl, h.tol⟩
      · rw [if_neg c3, if_neg c3]
        by_cases c4 : w = 1
        · rw [if_pos c4, if_pos c4]
          cases ht : isTop s.bd u with
          | true => rw [if_neg (show ¬ (if true = true then (1 : Int32) else 0) = 0 by decide +kernel)]; exact ⟨_, a, b, rfl, h.tol⟩
          | false => rw [if_pos (show (if false = true then (1 : Int32) else 0) = 0 by decide +kernel)]; exact ⟨_, a, b, rfl, h.tol⟩
        · rw [if_neg c4, if_neg c4]; exact ⟨_, a, b, rfl, h.tol⟩
    · rw [if_neg c2, if_neg c2]; exact ⟨f, a, b, rfl, h⟩
  · rw [if_neg c1, if_neg c1]; exact ⟨f, a, b, rfl, h⟩
theorem mo_peg (hN : 66 ≤ N) (h : RM f a s) (hv : VA m s) (hm : m < 2 ^ 30) (p w : Int32) : m_X9_peg N (MH σ f a b) 53 p w = some (o_peg s p w) := by
  have hV := hv.2.2.1
  obtain ⟨h4, h6, hP4, _, hM, _⟩ := hV.d4
  unfold m_X9_peg o_peg
  simp only [MH_rv hN, MH_f3 hN, MH_f4 hN, MH_f6 hN, MH_f7 hN, MH_f8 hN, MH_f9 hN, MH_f11 hN, MH_f16 hN, MH_f19 hN, MH_f20 hN, MH_f21 hN, MH_f23 hN, MH_r0 hN, MH_r1 hN, MH_r2 hN, MH_r5 hN, MH_r10 hN, MH_r12 hN, MH_r13 hN, MH_r14 hN, MH_r15 hN, MH_r17 hN, MH_r18 hN, MH_r22 hN, Option.bind_some, isPeg_ok hN h hv, ite10]
  by_cases c1 : isP s p
  · rw [if_pos c1, if_pos c1, show (0 : Int64) = (0 : Int32).toInt64 by decide +kernel, show (2 : Int64) = (2 : Int32).toInt64 by decide +kernel, i64_in]
    simp only [Option.bind_some, ite10]
    by_cases c2 : 0 ≤ w ∧ w ≤ 2
    · rw [if_pos c2, if_pos c2]
      obtain ⟨u, hu, rfl⟩ := lt_of (by omega) c1
      have hB := h.2.2.2.2.1
      rw [state_ok hN hB hV hm]
      simp only [Option.bind_some]
      rw [lying_ok hN hB.2.2.1 h6 (stx_lt hV) (by omega), nt_nI (by omega)]
      simp only [Option.bind_some]
      have hs := lset_64 (x := stx s.bd) (p := u) h6
      rw [bits_all _ hs, lowest_ok hs]
      simp only [Option.bind_some]
      by_cases c3 : w = 0
      · rw [if_pos c3, if_pos c3]
      · rw [if_neg c3, if_neg c3]
        by_cases c4 : w = 1
        · rw [if_pos c4, if_pos c4]
        · rw [if_neg c4, if_neg c4]
          by_cases c5 : lset (stx s.bd) u s.bd.D = 0
          · rw [if_pos (show nI (lset (stx s.bd) u s.bd.D) = 0 by rw [c5]; rfl), if_pos c5]
          · rw [if_neg (show ¬ nI (lset (stx s.bd) u s.bd.D) = 0 from ni_ne (b := 0) (by omega) (by omega) c5), if_neg c5]
    · rw [if_neg c2, if_neg c2]
  · rw [if_neg c1, if_neg c1]
theorem count_loop (hN : 66 ≤ N) (h : RM f a s) (hv : VA m s) (v1 : Int32) : ∀ (r n j : Nat), j + r = 8 → r < n → L_X9_count_4 N (MH σ f a b) 53 v1 n (nI (cntR s.lane j)) (nI j) = some (nI (cntR s.lane 8)) := by
  intro r
  induction r with
  | zero =>
    intro n j hj hn
    obtain ⟨n, rfl⟩ : ∃ k, n = k + 1 := ⟨n - 1, by omega⟩
    obtain rfl : j = 8 := by omega
    rw [L_X9_count_4.eq_2, if_pos (by decide +kernel)]
  | succ r ih =>
    intro n j hj hn
    obtain ⟨n, rfl⟩ : ∃ k, n = k + 1 := ⟨n - 1, by omega⟩
    have hw := ih n (j + 1) (by omega) (by omega)
    rw [cntR] at hw
    have hl := (hv.1 j (by omega)).1
    rw [L_X9_count_4.eq_2, if_neg (by rw [show (8 : Int32) = nI 8 from rfl, nI_leI (by omega) (by omega)]; omega)]
    simp only [MH_rv hN, MH_f3 hN, MH_f4 hN, MH_f6 hN, MH_f7 hN, MH_f8 hN, MH_f9 hN, MH_f11 hN, MH_f16 hN, MH_f19 hN, MH_f20 hN, MH_f21 hN, MH_f23 hN, MH_r0 hN, MH_r1 hN, MH_r2 hN, MH_r5 hN, MH_r10 hN, MH_r12 hN, MH_r13 hN, MH_r14 hN, MH_r15 hN, MH_r17 hN, MH_r18 hN, MH_r22 hN, Option.bind_some]
    rw [MH_a55 hN (by omega)]
    simp only [Option.bind_some]
    rw [(h.1 j (by omega)).1]
    by_cases c : s.lane j = -1
    · rw [if_pos ((lane_ng hl).mpr c), show (0 : Int32) = nI 0 from rfl, nI_add, nI_1]
      rw [if_pos c] at hw
      exact hw
    · rw [if_neg (by rw [lane_ng hl]; exact c), nI_1, nI_1]
      rw [if_neg c] at hw
      exact hw
theorem mo_count (hN : 66 ≤ N) (h : RM f a s) (hv : VA m s) (hm : m < 2 ^ 30) (w : Int32) : m_X9_count N (MH σ f a b) 53 w = some (o_count s w) := by
  have hV := hv.2.2.1
  obtain ⟨h4, h6, hP4, _, hM, _⟩ := hV.d4
  have hB := h.2.2.2.2.1
  unfold m_X9_count o_count
  have hl := count_loop (N := N) (σ := σ) (b := b) hN h hv w 8 fu 0 (by omega) (by decide)
  rw [show cntR s.lane 0 = 0 from rfl, nI_0] at hl
  simp only [MH_rv hN, MH_f3 hN, MH_f4 hN, MH_f6 hN, MH_f7 hN, MH_f8 hN, MH_f9 hN, MH_f11 hN, MH_f16 hN, MH_f19 hN, MH_f20 hN, MH_f21 hN, MH_f23 hN, MH_r0 hN, MH_r1 hN, MH_r2 hN, MH_r5 hN, MH_r10 hN, MH_r12 hN, MH_r13 hN, MH_r14 hN, MH_r15 hN, MH_r17 hN, MH_r18 hN, MH_r22 hN, Option.bind_some]
  rw [hl, state_ok hN hB hV hm]
  simp only [Option.bind_some]
  rw [codeOf_ok hN hB.2.2.1 h6 (by have := stx_lt hV; omega), cod_stx h6]
  rw [show aI 0 N (MH σ f a b) 58 0 = some (a 58 0) from MH_a58 (k := 0) hN (by omega), show aI 0 N (MH σ f a b) 58 1 = some (a 58 1) from MH_a58 (k := 1) hN (by omega), show aI 0 N (MH σ f a b) 58 2 = some (a 58 2) from MH_a58 (k := 2) hN (by omega), show aI 0 N (MH σ f a b) 58 3 = some (a 58 3) from MH_a58 (k := 3) hN (by omega)]
  simp only [Option.bind_some]
  rw [show a 58 0 = nI s.bd.P from hB.1, show a 58 1 = nI s.bd.H from hB.2.1, show a 58 2 = nI s.bd.D from hB.2.2.1, show a 58 3 = nI s.bd.M from hB.2.2.2.1, h.2.2.2.2.2.1.1, h.2.2.1.1]
  repeat' split
  all_goals rfl
theorem mo_feed (hN : 66 ≤ N) (h : RM f a s) (hv : VA m s) (x : Int32) : MOp N f a b (fun σ => m_X9_feed N σ 53 x) (o_feed s x).1 (o_feed s x).2 := by
  intro σ
  show ∃ f' a' b', m_X9_feed N (MH σ f a b) 53 x = _ ∧ _
  unfold m_X9_feed o_feed
  rw [MH_rv hN, show (0 : Int64) = (0 : Int32).toInt64 by decide +kernel, show (255 : Int64) = (255 : Int32).toInt64 by decide +kernel, i64_in]
  simp only [MH_rv hN, MH_f3 hN, MH_f4 hN, MH_f6 hN, MH_f7 hN, MH_f8 hN, MH_f9 hN, MH_f11 hN, MH_f16 hN, MH_f19 hN, MH_f20 hN, MH_f21 hN, MH_f23 hN, MH_r0 hN, MH_r1 hN, MH_r2 hN, MH_r5 hN, MH_r10 hN, MH_r12 hN, MH_r13 hN, MH_r14 hN, MH_r15 hN, MH_r17 hN, MH_r18 hN, MH_r22 hN, Option.bind_some, ite10]
  obtain ⟨h1, h2, h3, h4, h5, h6, h7, h8⟩ := id h
  have h60 := hv.2.1.1
  by_cases c1 : 0 ≤ x ∧ x ≤ 255
  · rw [if_pos c1, if_pos c1, h3.1]
    by_cases c2 : s.tl = 60
    · rw [if_pos (show nI s.tl = 60 by rw [c2]; rfl), if_pos c2]; exact ⟨f, a, b, rfl, h⟩
    · rw [if_neg (show ¬ nI s.tl = 60 from ni_ne (b := 60) (by omega) (by omega) c2), if_neg c2, MH_s57 hN (by omega)]
      simp only [MH_rv hN, MH_f3 hN, MH_f4 hN, MH_f6 hN, MH_f7 hN, MH_f8 hN, MH_f9 hN, MH_f11 hN, MH_f16 hN, MH_f19 hN, MH_f20 hN, MH_f21 hN, MH_f23 hN, MH_r0 hN, MH_r1 hN, MH_r2 hN, MH_r5 hN, MH_r10 hN, MH_r12 hN, MH_r13 hN, MH_r14 hN, MH_r15 hN, MH_r17 hN, MH_r18 hN, MH_r22 hN, Option.bind_some]
      rw [h3.1, nI_1, MH_put (j := 4) hN (by omega)]
      simp only [MH_rv hN, MH_f3 hN, MH_f4 hN, MH_f6 hN, MH_f7 hN, MH_f8 hN, MH_f9 hN, MH_f11 hN, MH_f16 hN, MH_f19 hN, MH_f20 hN, MH_f21 hN, MH_f23 hN, MH_r0 hN, MH_r1 hN, MH_r2 hN, MH_r5 hN, MH_r10 hN, MH_r12 hN, MH_r13 hN, MH_r14 hN, MH_r15 hN, MH_r17 hN, MH_r18 hN, MH_r22 hN, Option.bind_some]
      rw [upd_s]
      obtain ⟨u, hu, rfl⟩ := ni_of (n := 255) (by omega) c1.1 c1.2
      rw [nt_nI (by omega)]
      refine ⟨_, _, b, rfl, ?_⟩
      have ha : ∀ i, i ≠ 57 → (va_up a 57 (upd (a 57) s.tl (nar 2 (nI u).toInt8.toInt32))) i = a i := fun i hi => vup_n hi
      refine ⟨?_, by rw [upd_n (by decide)]; exact h2, ⟨upd_s, fun j hj => ?_⟩, by rw [upd_n (by decide)]; exact h4, by rw [ha 58 (by omega)]; exact h5, ⟨by rw [upd_n (by decide)]; exact h6.1, by rw [ha 58 (by omega)]; exact h6.2⟩, by rw [ha 58 (by omega), ha 59 (by omega)]; exact h7, ⟨by rw [upd_n (by decide)]; exact h8.1, by rw [ha 65 (by omega)]; exact h8.2⟩⟩
      · rw [ha 54 (by omega), ha 55 (by omega), ha 56 (by omega)]; exact h1
      · rw [vup_s]
        show upd (a 57) s.tl _ j = (nI (va_up s.tb s.tl u j)).toInt8.toInt32
        by_cases c : j = s.tl
        · subst c
          rw [upd_s, vup_s]
          show vp_nar .byte _ = _
          exact pk_vb (nI u)
        · have hj : j < s.tl + 1 := hj
          rw [upd_n c, vup_n c]; exact h3.2 j (by omega)
  · rw [if_neg c1, if_neg c1]; exact ⟨f, a, b, rfl, h⟩
end MP
