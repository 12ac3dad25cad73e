/-! evenings -/
/-- how many of the sixteen moves may be -/
def cnt (s : Nat) : Nat := bcR s 16
/-- the number of that bit of a set of which a are ahead, from 16 - r on -/
def selR (s : Nat) : Nat → Nat → Nat
  | 0, _ => 16
  | r + 1, a => if s.testBit (15 - r) then (if a = 0 then 15 - r else selR s r (a - 1)) else selR s r a
def sel (s a : Nat) : Nat := selR s 16 a
/-- how many bits there are from 16 - r on -/
def cfR (s : Nat) : Nat → Nat
  | 0 => 0
  | r + 1 => (s / 2 ^ (15 - r) % 2) + cfR s r
theorem bcR_le (s : Nat) : ∀ k, bcR s k ≤ k := by
  intro k
  induction k with
  | zero => exact Nat.le_refl _
  | succ k ih => rw [bcR]; have := Nat.mod_lt (s / 2 ^ k) (show 0 < 2 by omega); omega
theorem bc_cf (s : Nat) : ∀ r, r ≤ 16 → bcR s (16 - r) + cfR s r = cnt s := by
  intro r
  induction r with
  | zero => intro _; rfl
  | succ r ih =>
    intro hr
    have := ih (by omega)
    rw [show 16 - r = (15 - r) + 1 by omega, bcR] at this
    rw [cfR, show 16 - (r + 1) = 15 - r by omega]
    omega
theorem cnt_cf (s : Nat) : cfR s 16 = cnt s := by
  have := bc_cf s 16 (by omega)
  rw [show bcR s (16 - 16) = 0 from rfl] at this
  omega
theorem selR_ok (s : Nat) : ∀ (r a : Nat), r ≤ 16 → a < cfR s r → selR s r a < 16 ∧ s.testBit (selR s r a) = true := by
  intro r
  induction r with
  | zero => intro a _ h; exact absurd h (by show ¬ a < 0; omega)
  | succ r ih =>
    intro a hr h
    rw [cfR, tb_div] at h
    rw [selR]
    cases c : s.testBit (15 - r) with
    | true =>
      rw [c, if_pos rfl] at h
      rw [if_pos rfl]
      by_cases c0 : a = 0
      · rw [if_pos c0]; exact ⟨by omega, c⟩
      · rw [if_neg c0]; exact ih _ (by omega) (by omega)
    | false =>
      rw [c, if_neg (by decide)] at h
      rw [if_neg (by decide)]; exact ih _ (by omega) (by omega)
theorem sel_ok {s a : Nat} (h : a < cnt s) : sel s a < 16 ∧ s.testBit (sel s a) = true := selR_ok s 16 a (by omega) (by rw [cnt_cf]; exact h)
/-- the next number -/
def drw (x : Nat) : Nat := x * 16807 % 2147483647
theorem drw_lt (x : Nat) : drw x < 2147483647 := Nat.mod_lt _ (by decide)
theorem drw_ok {x : Nat} (hx : x < 2 ^ 31) : lN x * 16807 - lN x * 16807 / 2147483647 * 2147483647 = lN (drw x) := by
  have e1 : (16807 : Int64) = lN 16807 := by decide +kernel
  have e2 : (2147483647 : Int64) = lN 2147483647 := by decide +kernel
  rw [e1, e2, lN_mul]
  exact pk_lRem (Nat.lt_of_lt_of_le (Nat.mul_lt_mul_of_pos_right hx (by decide)) (by decide)) (by decide) (by decide)
/-- n moves by draws: x the number, st the state, o how often disc 0 was moved -/
def evg (P H D : Nat) (kd : Nat → Nat) : Nat → Nat → Nat → Nat → Nat × Nat
  | 0, _, st, o => (st, o)
  | n + 1, x, st, o => if cnt (mms P H D kd st) = 0 then evg P H D kd n (drw x) st o
      else evg P H D kd n (drw x) (bhd H D kd st (sel (mms P H D kd st) (drw x % cnt (mms P H D kd st)))) (o + if mvr H D kd st (sel (mms P H D kd st) (drw x % cnt (mms P H D kd st)) / 4) (sel (mms P H D kd st) (drw x % cnt (mms P H D kd st)) % 4) = 0 then 1 else 0)
def o_drawn (s : AS) (n seed w : Int32) : Int32 :=
  if s.bd.P = 0 then -1000002 else if 0 ≤ n ∧ n ≤ 60 then (if 1 ≤ seed ∧ seed ≤ 999999 then (if 0 ≤ w ∧ w ≤ 1 then (if w = 0 then nI (cod (evg s.bd.P s.bd.H s.bd.D s.bd.kd (nt n) (nt seed) (stx s.bd) 0).1 s.bd.D) else nI (evg s.bd.P s.bd.H s.bd.D s.bd.kd (nt n) (nt seed) (stx s.bd) 0).2) else -1000001) else -1000001) else -1000001
theorem bhd_lt {P H D : Nat} {kd : Nat → Nat} {x k : Nat} (hx : x < 8192) (hk : lgl P H D kd x k = true) : bhd H D kd x k < 8192 := by
  obtain ⟨_, _, _, k4⟩ := (lgl_iff P H D kd x k).mp hk
  exact nxt_lt hx k4 (Nat.mod_lt _ (by omega))
theorem mms_lt (P H D : Nat) (kd : Nat → Nat) (x : Nat) : mms P H D kd x < 65536 := mmR_lt P H D kd x 16
section MD
variable {N m : Nat} {f : Nat → Int32} {a : Nat → Nat → Int32} {b : Nat → Nat → Int64} {s : AS} {σ : Hp}
theorem drawn_99 {st : Nat} (hs : st < 65536) {v0 : Nat} {v1 v3 : Int32} {v4 : Int64} {v6 v7 v8 : Int32} : ∀ (r n j : Nat), j + r = 16 → r < n → L_X9_drawn_99 N σ v0 v1 v3 v4 v6 v7 v8 (nI st) n (nI (bcR st j)) (nI j) = some (nI (cnt st)) := by
  intro r
  induction r with
  | zero =>
    intro n j hj hn
    obtain ⟨n, rfl⟩ : ∃ k, n = k + 1 := ⟨n - 1, by omega⟩
    obtain rfl : j = 16 := by omega
    rw [L_X9_drawn_99.eq_2, if_pos (by decide +kernel)]
    rfl
  | succ r ih =>
    intro n j hj hn
    obtain ⟨n, rfl⟩ : ∃ k, n = k + 1 := ⟨n - 1, by omega⟩
    rw [L_X9_drawn_99.eq_2, if_neg (show ¬ (16 : Int32) ≤ nI j by rw [show (16 : Int32) = nI 16 from rfl, nI_leI (by omega) (by omega)]; omega), ni_bit (by omega) (by omega), nI_add, lt, nI_1]
    exact ih n (j + 1) (by omega) (by omega)
theorem drawn_141 {st : Nat} (hs : st < 65536) {v0 : Nat} {v1 v3 : Int32} {v4 : Int64} {v6 v7 v8 : Int32} : ∀ (r n a : Nat), r ≤ 16 → r < n → a < cfR st r → L_X9_drawn_141 N σ v0 v1 v3 v4 v6 v7 v8 (nI st) n (nI a) (nI (16 - r)) = some (nI (selR st r a)) := by
  intro r
  induction r with
  | zero => intro n a _ _ h; exact absurd h (by show ¬ a < 0; omega)
  | succ r ih =>
    intro n a hr hn h
    obtain ⟨n, rfl⟩ : ∃ k, n = k + 1 := ⟨n - 1, by omega⟩
    rw [cfR, tb_div] at h
    have e : 16 - (r + 1) = 15 - r := by omega
    have hb : cfR st r ≤ 16 := by have := bc_cf st r (by omega); have := bcR_le st 16; unfold cnt at *; omega
    rw [L_X9_drawn_141.eq_2, has_ok (by omega) (by omega), e, ni_bit (by omega) (by omega), tb_div, selR]
    simp only [Option.bind_some]
    cases c : st.testBit (15 - r) with
    | true =>
      rw [c, if_pos rfl] at h
      simp only [if_true]
      rw [if_neg (show ¬ (1 : Int32) = 0 by decide +kernel)]
      by_cases c0 : a = 0
      · subst c0
        rw [if_pos (show nI 0 ≤ 0 by decide +kernel)]
        rfl
      · rw [if_neg (nI_nle (by omega) (by omega)), lt, pk_sub (by omega), nI_1, show 15 - r + 1 = 16 - r by omega, if_neg c0]
        exact ih n _ (by omega) (by omega) (by omega)
    | false =>
      rw [c, if_neg (by decide)] at h
      simp only [Bool.false_eq_true, if_false, if_true]
      rw [lt, pk_sub (by omega), nI_1, show 15 - r + 1 = 16 - r by omega]
      exact ih n _ (by omega) (by omega) (by omega)
theorem drawn_67 (hN : 66 ≤ N) {P H D : Nat} {kd : Nat → Nat} (hT : Told f (a 58) P H D kd) {v3 : Int32} {nn : Nat} (hnn : nn ≤ 60) : ∀ (r t k x st o : Nat), k + r = nn → r < t → x < 2 ^ 31 → st < 8192 → L_X9_drawn_67 N (MH σ f a b) 53 (nI nn) v3 t (lN x) (nI st) (nI o) (nI k) = some (nI (evg P H D kd r x st o).1, nI (evg P H D kd r x st o).2) := by
  intro r
  induction r with
  | zero =>
    intro t k x st o hk ht _ _
    obtain ⟨t, rfl⟩ : ∃ k, t = k + 1 := ⟨t - 1, by omega⟩
    rw [L_X9_drawn_67.eq_2, if_pos (nI_le (by omega) (by omega))]
    rfl
  | succ r ih =>
    intro t k x st o hk ht hx hs
    obtain ⟨t, rfl⟩ : ∃ k, t = k + 1 := ⟨t - 1, by omega⟩
    have hm := mms_lt P H D kd st
    have h99 := drawn_99 (N := N) (σ := MH σ f a b) (v0 := 53) (v1 := nI nn) (v3 := v3) (v4 := lN (drw x)) (v6 := nI st) (v7 := nI o) (v8 := nI k) hm 16 fu 0 (by omega) (by decide)
    rw [show bcR (mms P H D kd st) 0 = 0 from rfl, nI_0] at h99
    have hx' := drw_lt x

    have hc := bcR_le (mms P H D kd st) 16
    rw [L_X9_drawn_67.eq_2, if_neg (nI_ge (by omega) (by omega)), drw_ok hx, lt, movesOf_ok hN hT hs]
    rw [Option.bind_some, h99, Option.bind_some]
    rw [evg]
    by_cases c : cnt (mms P H D kd st) = 0
    · rw [if_pos c, c, if_pos (show nI 0 ≤ 0 by decide +kernel), nI_1]
      exact ih t (k + 1) _ st o (by omega) (by omega) (by omega) hs
    · rw [if_neg c]
      have hcc : cnt (mms P H D kd st) ≤ 16 := hc
      have ha : drw x % cnt (mms P H D kd st) < cnt (mms P H D kd st) := Nat.mod_lt _ (by omega)
      have h141 := drawn_141 (N := N) (σ := MH σ f a b) (v0 := 53) (v1 := nI nn) (v3 := v3) (v4 := lN (drw x)) (v6 := nI st) (v7 := nI o) (v8 := nI k) hm 16 fu _ (by omega) (by decide) (by rw [cnt_cf]; exact ha)
      rw [show 16 - 16 = 0 from rfl, nI_0] at h141
      obtain ⟨s1, s2⟩ := sel_ok ha
      rw [show selR (mms P H D kd st) 16 (drw x % cnt (mms P H D kd st)) = sel (mms P H D kd st) (drw x % cnt (mms P H D kd st)) from rfl] at h141
      rw [if_neg (nI_nle (by omega) (by omega)), nI_l (by omega), nzJ, if_neg (show ¬ lN (cnt (mms P H D kd st)) = 0 by rw [show (0 : Int64) = lN 0 from rfl, pk_lEQ (by omega) (by omega)]; exact c)]
      simp only [Option.bind_some]
      rw [lt, pk_lRem (by omega) (by omega) (by omega), lN_i, h141]
      simp only [Option.bind_some]
      generalize hk' : sel (mms P H D kd st) (drw x % cnt (mms P H D kd st)) = q at s1 s2 ⊢
      rw [(div4 s1).2, (div4 s1).1, mover_ok hN hT hs (by omega) (by omega)]
      simp only [Option.bind_some]
      rw [behind_ok hN hT hs s2]
      have hmv := mvr_le H D kd st (q / 4) (q % 4)
      have := ih t (k + 1) (drw x) (bhd H D kd st q) (o + if mvr H D kd st (q / 4) (q % 4) = 0 then 1 else 0) (by omega) (by omega) (by omega) (bhd_lt hs s2)
      by_cases c2 : mvr H D kd st (q / 4) (q % 4) = 0
      · rw [if_pos c2] at this ⊢
        rw [c2, if_pos nI_0]
        simp only [Option.bind_some]
        rw [nI_1, nI_1]
        exact this
      · rw [if_neg c2] at this ⊢
        rw [if_neg (nI_ne0 (by omega) (by omega))]
        simp only [Option.bind_some]
        rw [show nI o + 0 = nI (o + 0) from nI_add o 0, nI_1]
        exact this
theorem mo_drawn (hN : 66 ≤ N) (h : RM f a s) (hv : VA m s) (hm : m < 2 ^ 30) (n seed w : Int32) : MOp N f a b (fun σ => m_X9_drawn N σ 53 n seed w) (o_drawn s n seed w) s := by
  intro σ
  show ∃ f' a' b', m_X9_drawn N (MH σ f a b) 53 n seed w = _ ∧ _
  have hV := hv.2.2.1
  have hB := h.2.2.2.2.1
  obtain ⟨_, h6, _⟩ := hV.d4
  unfold m_X9_drawn o_drawn
  rw [MH_rv hN, isBoard_ok hN h hv]
  simp only [Option.bind_some, ite01]
  by_cases c0 : s.bd.P = 0
  · rw [if_pos c0, if_pos c0]; exact ⟨f, a, b, rfl, h⟩
  rw [if_neg c0, if_neg c0, show (0 : Int64) = (0 : Int32).toInt64 by decide +kernel, show (60 : Int64) = (60 : Int32).toInt64 by decide +kernel, show (1 : Int64) = (1 : Int32).toInt64 by decide +kernel, show (999999 : Int64) = (999999 : Int32).toInt64 by decide +kernel, i64_in, i64_in, i64_in]
  simp only [Option.bind_some, ite10]
  by_cases c1 : 0 ≤ n ∧ n ≤ 60
  · rw [if_pos c1, if_pos c1]
    by_cases c2 : 1 ≤ seed ∧ seed ≤ 999999
    · rw [if_pos c2, if_pos c2]
      by_cases c3 : 0 ≤ w ∧ w ≤ 1
      · rw [if_pos c3, if_pos c3, asTold_ok hN]
        obtain ⟨n, hn, rfl⟩ := ni_of (n := 60) (by omega) c1.1 (by rw [show nI 60 = 60 from rfl]; exact c1.2)
        obtain ⟨seed, hs, rfl⟩ := ni_of (n := 999999) (by omega) (show (0 : Int32) ≤ seed by have := c2.1; rw [Int32.le_iff_toInt_le] at this ⊢; exact Int.le_trans (by decide) this) (by rw [show nI 999999 = 999999 from rfl]; exact c2.2)
        simp only [Option.bind_some]
        rw [state_ok hN hB hV hm]
        simp only [Option.bind_some]
        have := drawn_67 (N := N) (σ := σ) (b := b) hN (told_of (f := f) hB hV) (v3 := w) hn n fu 0 seed (stx s.bd) 0 (by omega) (by show n < 20000; omega) (by omega) (stx_lt hV)
        rw [nI_0] at this
        rw [nI_l (by omega), this, nt_nI (by omega), nt_nI (by omega)]
        simp only [Option.bind_some]
        by_cases c4 : w = 0
        · rw [if_pos c4, if_pos c4]
          have hlt : (evg s.bd.P s.bd.H s.bd.D s.bd.kd n seed (stx s.bd) 0).1 < 8192 := by
            have : ∀ (r x st o : Nat), st < 8192 → (evg s.bd.P s.bd.H s.bd.D s.bd.kd r x st o).1 < 8192 := by
              intro r
              induction r with
              | zero => intro x st o h; exact h
              | succ r ih =>
                intro x st o h
                rw [evg]
                split
                · exact ih _ _ _ h
                · next c => exact ih _ _ _ (bhd_lt h (sel_ok (Nat.mod_lt _ (by omega))).2)
            exact this _ _ _ _ (stx_lt hV)
          rw [codeOf_ok hN hB.2.2.1 h6 (by omega)]
          exact ⟨_, a, b, rfl, h.tol⟩
        · rw [if_neg c4, if_neg c4]
          exact ⟨_, a, b, rfl, h.tol⟩
      · rw [if_neg c3, if_neg c3]; exact ⟨f, a, b, rfl, h⟩
    · rw [if_neg c2, if_neg c2]; exact ⟨f, a, b, rfl, h⟩
  · rw [if_neg c1, if_neg c1]; exact ⟨f, a, b, rfl, h⟩
end MD
