/-! books of moves -/
/-- r moves from the k-th on, told by items: the place of the first that may not be -/
def jd (P H D : Nat) (kd : Nat → Nat) (it : Nat → Int32) : Nat → Nat → Nat → Int32
  | 0, _, _ => -1000000
  | r + 1, k, x => if (0 ≤ it k ∧ nt (it k) / 10 < P ∧ nt (it k) % 10 < P) ∧ mvr H D kd x (nt (it k) / 10) (nt (it k) % 10) < 6 then jd P H D kd it r (k + 1) (nxt x (mvr H D kd x (nt (it k) / 10) (nt (it k) % 10)) (nt (it k) % 10)) else nI k
theorem jd_nn {P H D : Nat} {kd : Nat → Nat} {it : Nat → Int32} : ∀ {r k x : Nat}, k + r < 100 → ((0 ≤ jd P H D kd it r k x) ↔ jd P H D kd it r k x ≠ -1000000) := by
  intro r
  induction r with
  | zero => intro k x _; rw [jd]; decide +kernel
  | succ r ih =>
    intro k x hk
    rw [jd]
    split
    · exact ih (by omega)
    · have e : ∀ k, k < 100 → ((0 : Int32) ≤ nI k ↔ nI k ≠ -1000000) := by decide +kernel
      exact e k (by omega)
/-- what is wrong with n items from i on: 0 nothing, 1, 2 -/
def wrg (s : AS) (r : Nat) (i n : Int32) : Int32 := if s.lane r = -1 then 1 else if wthB s r i n then 0 else 2
def o_judge (s : AS) (r i n : Int32) : Int32 × AS :=
  if s.bd.P = 0 then (-1000002, s) else if 0 ≤ r ∧ r ≤ 7 then (if 1 ≤ n ∧ n ≤ 16 then (if wrg s (nt r) i n = 0 then (jd s.bd.P s.bd.H s.bd.D s.bd.kd (fun k => s.items (nt r) (nt i + k)) (nt n) 0 (stx s.bd), s.fnd 0) else (-1000010 - wrg s (nt r) i n, s.fnd (wrg s (nt r) i n))) else (-1000001, s)) else (-1000001, s)
/-- one thing other than it is: the kind, the peg, the height -/
def ftk (s : AS) (d : Nat) (it : Nat → Int32) (n w k : Nat) : Bool :=
  if w = 0 then decide (1 ≤ k ∧ k ≤ 5) && decide (jd s.bd.P s.bd.H s.bd.D (va_up s.bd.kd d k) it n 0 (stx s.bd) = -1000000)
  else if w = 1 then decide (k < s.bd.P) && decide (jd s.bd.P s.bd.H s.bd.D s.bd.kd it n 0 (setd (stx s.bd) d k) = -1000000)
  else decide (0 < k) && decide (jd s.bd.P k s.bd.D s.bd.kd it n 0 (stx s.bd) = -1000000)
def ftR (s : AS) (d : Nat) (it : Nat → Int32) (n w : Nat) : Nat → Nat
  | 0 => 0
  | k + 1 => ftR s d it n w k ||| (if ftk s d it n w k = true then 2 ^ k else 0)
theorem ftR_lt (s : AS) (d : Nat) (it : Nat → Int32) (n w k : Nat) : ftR s d it n w k < 2 ^ k := by
  induction k with
  | zero => exact Nat.one_pos
  | succ k ih =>
    rw [ftR]
    refine Nat.or_lt_two_pow (Nat.lt_of_lt_of_le ih (Nat.pow_le_pow_right (by omega) (by omega))) ?_
    split
    · exact Nat.pow_lt_pow_right (by omega) (by omega)
    · exact Nat.pow_pos (by omega)
def o_fits (s : AS) (d r i n w : Int32) : Int32 × AS :=
  if isD s d then (if 0 ≤ r ∧ r ≤ 7 then (if 1 ≤ n ∧ n ≤ 16 then (if 0 ≤ w ∧ w ≤ 2 then (if wrg s (nt r) i n = 0 then (nI (ftR s (nt d) (fun k => s.items (nt r) (nt i + k)) (nt n) (nt w) 7), s.fnd 0) else (-1000010 - wrg s (nt r) i n, s.fnd (wrg s (nt r) i n))) else (-1000001, s)) else (-1000001, s)) else (-1000001, s)) else (-1000001, s)
theorem i16 {k : Int32} (h : 1 ≤ k ∧ k ≤ 16) : ∃ u, 1 ≤ u ∧ u ≤ 16 ∧ k = nI u := by
  obtain ⟨u, h1, rfl⟩ := ni_of (n := 16) (by omega) (by have := h.1; rw [Int32.le_iff_toInt_le] at this ⊢; have e : (1 : Int32).toInt = 1 := rfl; have e2 : (0 : Int32).toInt = 0 := rfl; omega) h.2
  refine ⟨u, ?_, h1, rfl⟩
  have := h.1
  rw [show (1 : Int32) = nI 1 from rfl, nI_leI (by omega) (by omega)] at this
  exact this
section MJ
variable {N m : Nat} {f : Nat → Int32} {a : Nat → Nat → Int32} {b : Nat → Nat → Int64} {s : AS} {σ : Hp}
theorem wrongOf_ok (hN : 66 ≤ N) (h : RM f a s) (hv : VA m s) {k : Nat} (hk : k < 8) (i n : Int32) : m_X9_wrongOf N (MH σ f a b) 53 (nI k) i n = some (wrg s k i n) := by
  obtain ⟨r1, r2, r3⟩ := h.1 k hk
  obtain ⟨v1, v2⟩ := hv.1 k hk
  unfold m_X9_wrongOf wrg
  simp only [MH_rv hN, MH_f3 hN, MH_f4 hN, MH_f6 hN, MH_f7 hN, MH_f8 hN, MH_f9 hN, MH_f11 hN, MH_f16 hN, MH_f19 hN, MH_f20 hN, MH_f21 hN, MH_f23 hN, MH_r0 hN, MH_r1 hN, MH_r2 hN, MH_r5 hN, MH_r10 hN, MH_r12 hN, MH_r13 hN, MH_r14 hN, MH_r15 hN, MH_r17 hN, MH_r18 hN, MH_r22 hN, Option.bind_some]
  rw [MH_a55 hN hk]
  simp only [Option.bind_some]
  rw [r1]
  by_cases c : s.lane k = -1
  · rw [if_neg (by rw [lane_nn v1]; exact fun g => g c), if_pos c]
  · rw [if_pos ((lane_nn v1).mpr c), if_neg c, isWithin_ok hN h hv hk c]
    simp only [Option.bind_some, ite10]
    cases wthB s k i n <;> rfl
theorem dm10 {w : Nat} (h : w < 2 ^ 31) : nI w / 10 = nI (w / 10) ∧ nI w - nI w / 10 * 10 = nI (w % 10) := by
  rw [show (10 : Int32) = nI 10 from rfl]
  exact ⟨pk_div h (by omega) (by omega), pk_rem h (by omega) (by omega)⟩
theorem pgc {P v : Nat} (hP : P < 2 ^ 31) (hv : v < 2 ^ 31) : (0 ≤ nI v ∧ nI v < nI P) ↔ v < P := by
  constructor
  · intro h; exact (nI_ltI hv hP).mp h.2
  · intro h; exact ⟨nI_pos' hv, (nI_ltI hv hP).mpr h⟩
theorem mvr_6 {H D : Nat} {kd : Nat → Nat} {x p q : Nat} : ¬ mvr H D kd x p q < 6 ↔ mvr H D kd x p q = 6 := by
  have := mvr_le H D kd x p q; omega
theorem judged_loop (hN : 66 ≤ N) (h : RM f a s) (hv : VA m s) {H : Nat} {kd : Nat → Nat} (hT : Told f (a 58) s.bd.P H s.bd.D kd) {k i n : Nat} (hk : k < 8) (hi : i + n ≤ 40) : ∀ (r t j x : Nat), j + r = n → r < t → x < 8192 → ∃ z, L_X9_judged_7 N (MH σ f a b) 53 (nI k) (nI i) (nI n) t (nI x) (nI j) = some z ∧ cS z (fun _ => some (-1000000 : Int32)) (fun q => some q) = some (jd s.bd.P H s.bd.D kd (fun u => s.items k (i + u)) r j x) := by
  obtain ⟨_, h6, hP4, _⟩ := hv.2.2.1.d4
  intro r
  induction r with
  | zero =>
    intro t j x hj ht hx
    obtain ⟨t, rfl⟩ : ∃ q, t = q + 1 := ⟨t - 1, by omega⟩
    obtain rfl : j = n := by omega
    rw [L_X9_judged_7.eq_2, if_pos (nI_le (Nat.le_refl _) (by omega))]
    exact ⟨_, rfl, rfl⟩
  | succ r ih =>
    intro t j x hj ht hx
    obtain ⟨t, rfl⟩ : ∃ q, t = q + 1 := ⟨t - 1, by omega⟩
    rw [L_X9_judged_7.eq_2, if_neg (nI_ge (by omega) (by omega))]
    simp only [MH_rv hN, MH_f3 hN, MH_f4 hN, MH_f6 hN, MH_f7 hN, MH_f8 hN, MH_f9 hN, MH_f11 hN, MH_f16 hN, MH_f19 hN, MH_f20 hN, MH_f21 hN, MH_f23 hN, MH_r0 hN, MH_r1 hN, MH_r2 hN, MH_r5 hN, MH_r10 hN, MH_r12 hN, MH_r13 hN, MH_r14 hN, MH_r15 hN, MH_r17 hN, MH_r18 hN, MH_r22 hN, Option.bind_some]
    rw [show (40 : Int32) = nI 40 from rfl, pk_mul, nI_add, nI_add, MH_a54 hN (by omega)]
    simp only [Option.bind_some]
    have e := (h.1 k hk).2.2 (i + j) (by omega)
    rw [← Nat.add_assoc] at e
    rw [e, jd]
    generalize hve : s.items k (i + j) = v at *
    by_cases c0 : 0 ≤ v
    · obtain ⟨w, hw, rfl⟩ := nI_of (x := v) (by rw [Int32.lt_iff_toInt_lt]; rw [Int32.le_iff_toInt_le] at c0; omega)
      rw [if_pos c0, (dm10 hw).2, (dm10 hw).1]
      simp only [Option.bind_some, isPeg_ok hN h hv, ite10, hve]
      rw [nt_nI hw]
      simp only [pgc (show s.bd.P < 2 ^ 31 by omega) (show w / 10 < 2 ^ 31 by omega), pgc (show s.bd.P < 2 ^ 31 by omega) (show w % 10 < 2 ^ 31 by omega)]
      by_cases c1 : w / 10 < s.bd.P
      · rw [if_pos c1]
        by_cases c2 : w % 10 < s.bd.P
        · rw [if_pos c2, mover_ok hN hT hx (by omega) (by omega)]
          simp only [Option.bind_some]
          have hm := mvr_le H s.bd.D kd x (w / 10) (w % 10)
          by_cases c3 : mvr H s.bd.D kd x (w / 10) (w % 10) < 6
          · rw [if_neg (show ¬ nI (mvr H s.bd.D kd x (w / 10) (w % 10)) = 6 from ni_ne (b := 6) (by omega) (by omega) (by omega)), moved_ok hx c3 (by omega)]
            simp only [Option.bind_some]
            rw [nI_1, if_pos (show (0 ≤ nI w ∧ w / 10 < s.bd.P ∧ w % 10 < s.bd.P) ∧ mvr H s.bd.D kd x (w / 10) (w % 10) < 6 from ⟨⟨c0, c1, c2⟩, c3⟩)]
            exact ih t (j + 1) _ (by omega) (by omega) (nxt_lt hx c3 (by omega))
          · rw [if_pos (show nI (mvr H s.bd.D kd x (w / 10) (w % 10)) = 6 by rw [mvr_6.mp c3]; rfl), if_neg (show ¬ ((0 ≤ nI w ∧ w / 10 < s.bd.P ∧ w % 10 < s.bd.P) ∧ mvr H s.bd.D kd x (w / 10) (w % 10) < 6) from fun g => c3 g.2)]
            exact ⟨_, rfl, rfl⟩
        · rw [if_neg c2]
          simp only [Option.bind_some]
          rw [if_pos trivial, if_neg (show ¬ ((0 ≤ nI w ∧ w / 10 < s.bd.P ∧ w % 10 < s.bd.P) ∧ mvr H s.bd.D kd x (w / 10) (w % 10) < 6) from fun g => c2 g.1.2.2)]
          exact ⟨_, rfl, rfl⟩
      · rw [if_neg c1]
        simp only [Option.bind_some]
        rw [if_pos trivial, if_neg (show ¬ ((0 ≤ nI w ∧ w / 10 < s.bd.P ∧ w % 10 < s.bd.P) ∧ mvr H s.bd.D kd x (w / 10) (w % 10) < 6) from fun g => c1 g.1.2.1)]
        exact ⟨_, rfl, rfl⟩
    · rw [if_neg c0]
      simp only [Option.bind_some, isPeg_ok hN h hv, ite10, hve]
      rw [if_neg (show ¬ ((0 : Int32) ≤ -1 ∧ (-1 : Int32) < nI s.bd.P) from fun g => absurd g.1 (by decide +kernel))]
      simp only [Option.bind_some]
      rw [if_pos trivial, if_neg (show ¬ ((0 ≤ v ∧ nt v / 10 < s.bd.P ∧ nt v % 10 < s.bd.P) ∧ mvr H s.bd.D kd x (nt v / 10) (nt v % 10) < 6) from fun g => c0 g.1.1)]
      exact ⟨_, rfl, rfl⟩
theorem judged_ok (hN : 66 ≤ N) (h : RM f a s) (hv : VA m s) {H : Nat} {kd : Nat → Nat} (hT : Told f (a 58) s.bd.P H s.bd.D kd) {k i n x : Nat} (hk : k < 8) (hi : i + n ≤ 40) (hx : x < 8192) : m_X9_judged N (MH σ f a b) 53 (nI k) (nI i) (nI n) (nI x) = some (jd s.bd.P H s.bd.D kd (fun u => s.items k (i + u)) n 0 x) := by
  unfold m_X9_judged
  simp only [MH_rv hN, MH_f3 hN, MH_f4 hN, MH_f6 hN, MH_f7 hN, MH_f8 hN, MH_f9 hN, MH_f11 hN, MH_f16 hN, MH_f19 hN, MH_f20 hN, MH_f21 hN, MH_f23 hN, MH_r0 hN, MH_r1 hN, MH_r2 hN, MH_r5 hN, MH_r10 hN, MH_r12 hN, MH_r13 hN, MH_r14 hN, MH_r15 hN, MH_r17 hN, MH_r18 hN, MH_r22 hN, Option.bind_some]
  obtain ⟨z, h1, h2⟩ := judged_loop (N := N) (σ := σ) (b := b) hN h hv hT hk hi n fu 0 x (by omega) (Nat.lt_of_le_of_lt (show n ≤ 40 by omega) (by decide)) hx
  rw [nI_0] at h1
  rw [h1]
  exact h2
theorem mo_judge (hN : 66 ≤ N) (h : RM f a s) (hv : VA m s) (hm : m < 2 ^ 30) (r i n : Int32) : MOp N f a b (fun σ => m_X9_judge N σ 53 r i n) (o_judge s r i n).1 (o_judge s r i n).2 := by
  intro σ
  show ∃ f' a' b', m_X9_judge N (MH σ f a b) 53 r i n = _ ∧ _
  have hV := hv.2.2.1
  have hB := h.2.2.2.2.1
  unfold m_X9_judge o_judge
  simp only [MH_rv hN, MH_f3 hN, MH_f4 hN, MH_f6 hN, MH_f7 hN, MH_f8 hN, MH_f9 hN, MH_f11 hN, MH_f16 hN, MH_f19 hN, MH_f20 hN, MH_f21 hN, MH_f23 hN, MH_r0 hN, MH_r1 hN, MH_r2 hN, MH_r5 hN, MH_r10 hN, MH_r12 hN, MH_r13 hN, MH_r14 hN, MH_r15 hN, MH_r17 hN, MH_r18 hN, MH_r22 hN, Option.bind_some, isBoard_ok hN h hv, ite01, isRow_ok, ite10]
  by_cases c1 : s.bd.P = 0
  · rw [if_pos c1, if_pos c1]; exact ⟨f, a, b, rfl, h⟩
  rw [if_neg c1, if_neg c1]
  by_cases c2 : 0 ≤ r ∧ r ≤ 7
  · rw [if_pos c2, if_pos c2, show (1 : Int64) = (1 : Int32).toInt64 by decide +kernel, show (16 : Int64) = (16 : Int32).toInt64 by decide +kernel, i64_in]
    simp only [Option.bind_some, ite10]
    obtain ⟨k, hk, rfl⟩ := i7 c2
    by_cases c3 : 1 ≤ n ∧ n ≤ 16
    · rw [if_pos c3, if_pos c3, wrongOf_ok hN h hv hk, nt_nI (by omega)]
      simp only [Option.bind_some]
      by_cases c4 : wrg s k i n = 0
      · rw [if_pos c4, if_pos c4, asTold_ok hN]
        simp only [Option.bind_some]
        have hw : wthB s k i n = true := by
          unfold wrg at c4
          by_cases c5 : s.lane k = -1
          · rw [if_pos c5] at c4; exact absurd c4 (by decide +kernel)
          · rw [if_neg c5] at c4
            cases h5 : wthB s k i n with
            | true => rfl
            | false => rw [h5] at c4; exact absurd c4 (by decide +kernel)
        obtain ⟨u, w, rfl, rfl, g1, g2, g3⟩ := wth_le hw (hv.1 k hk).2
        rw [state_ok hN hB hV hm]
        simp only [Option.bind_some]
        have hs := (hv.1 k hk).2
        rw [judged_ok hN h.tol hv (told_of (f := f) hB hV) hk (by omega) (stx_lt hV), nt_nI (by omega), nt_nI (by omega)]
        simp only [Option.bind_some]
        rw [good_ok hN]
        exact ⟨_, a, b, rfl, h.tol.fnd 0⟩
      · rw [if_neg c4, if_neg c4, finds_ok hN]
        exact ⟨_, a, b, rfl, h.fnd _⟩
    · rw [if_neg c3, if_neg c3]; exact ⟨f, a, b, rfl, h⟩
  · rw [if_neg c2, if_neg c2]; exact ⟨f, a, b, rfl, h⟩
end MJ
