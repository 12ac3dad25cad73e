/-! the reference: ways, chance (second part) -/
theorem dot_two {W : Nat → Nat} {g : Nat} (hg : g < 4096) : dot 8192 W (fun x => if arT g x then 1 else 0) = W g + W (g + 4096) := by
  have e : ∀ x, x < 8192 → W x * (if arT g x then 1 else 0) = (if x = g then W x else 0) + (if x = g + 4096 then W x else 0) := fun x hx => by
    by_cases c : arT g x = true
    · rw [if_pos c, Nat.mul_one]
      rcases (arT_iff hg hx).mp c with h | h
      · rw [if_pos h, if_neg (show ¬ x = g + 4096 by omega), Nat.add_zero]
      · rw [if_pos h, if_neg (show ¬ x = g by omega), Nat.zero_add]
    · rw [if_neg c, Nat.mul_zero, if_neg (fun h => c ((arT_iff hg hx).mpr (Or.inl h))), if_neg (fun h => c ((arT_iff hg hx).mpr (Or.inr h)))]
  unfold dot
  rw [sgm_congr 8192 e, sgm_add, sgm_one (f := fun x => if x = g then W x else 0) (y := g) 8192 (by omega) (fun x _ h => if_neg h), sgm_one (f := fun x => if x = g + 4096 then W x else 0) (y := g + 4096) 8192 (by omega) (fun x _ h => if_neg h), if_pos rfl, if_pos rfl]
/-- rows of n moves that lead to an arrangement -/
def wyN (bd : AB) (g n : Nat) : Nat := stps (lgl bd.P bd.H bd.D bd.kd) (bhd bd.H bd.D bd.kd) (cMv bd.P bd.H bd.D bd.kd) false (fun x => if arT g x then 1 else 0) n (stx bd)
def o_ways (s : AS) (r i n : Int32) : Int64 × AS :=
  if s.bd.P = 0 then (-1000002, s) else if 0 ≤ r ∧ r ≤ 7 then (if 0 ≤ n ∧ n ≤ 12 then (if wrg s (nt r) i (nI s.bd.D) = 0 then (if tOK s.bd.P (fun d => s.items (nt r) (nt i + d)) s.bd.D then lN (wyN s.bd (tldN (fun d => s.items (nt r) (nt i + d)) s.bd.D) (nt n)) else 0, s.fnd 0) else ((-1000010 - wrg s (nt r) i (nI s.bd.D)).toInt64, s.fnd (wrg s (nt r) i (nI s.bd.D)))) else (-1000001, s)) else (-1000001, s)
/-- how many parts of 60 ^ n have a disc on a peg -/
def chN (bd : AB) (d p n : Nat) : Nat := stps (lgl bd.P bd.H bd.D bd.kd) (bhd bd.H bd.D bd.kd) (cMv bd.P bd.H bd.D bd.kd) true (fun x => if pgx x d == p then 1 else 0) n (stx bd)
def o_chance (s : AS) (d p n w : Int32) : Int64 :=
  if 0 ≤ d ∧ d < nI s.bd.D then (if 0 ≤ p ∧ p < nI s.bd.P then (if 0 ≤ n ∧ n ≤ 7 then (if 0 ≤ w ∧ w ≤ 1 then (if w = 0 then lN (chN s.bd (nt d) (nt p) (nt n) / gcl 200 (chN s.bd (nt d) (nt p) (nt n)) (60 ^ nt n)) else lN (60 ^ nt n / gcl 200 (chN s.bd (nt d) (nt p) (nt n)) (60 ^ nt n))) else -1000001) else -1000001) else -1000001) else -1000001
theorem gcl_pos : ∀ (n a b : Nat), b < 2 ^ n → 0 < a + b → 0 < gcl (2 * n) a b := by
  intro n
  induction n with
  | zero =>
    intro a b hb h
    obtain rfl : b = 0 := by omega
    exact h
  | succ n ih =>
    intro a b hb h
    rw [show 2 * (n + 1) = 2 * n + 1 + 1 by omega, gcl_s]
    by_cases c : b = 0
    · rw [if_pos c]; omega
    · rw [if_neg c, gcl_s]
      by_cases c2 : a % b = 0
      · rw [if_pos c2]; omega
      · rw [if_neg c2]
        have h1 : a % b < b := Nat.mod_lt _ (by omega)
        have h2 : b % (a % b) < a % b := Nat.mod_lt _ (by omega)
        have h3 : b % (a % b) + a % b ≤ b := by
          have := Nat.div_add_mod b (a % b)
          have h4 : 1 ≤ b / (a % b) := (Nat.le_div_iff_mul_le (by omega)).mpr (by omega)
          have := Nat.mul_le_mul_left (a % b) h4
          omega
        rw [Nat.pow_succ] at hb
        exact ih _ _ (by omega) (by omega)
theorem lN_ne0 {n : Nat} (h0 : 0 < n) (h : n < 2 ^ 63) : ¬ lN n = 0 := by
  rw [show (0 : Int64) = lN 0 from rfl, pk_lEQ h (by omega)]; omega
theorem lcmp_eq {n : Nat} (h : n < 2 ^ 63) : (lg_cmp (lN n) 0 = 0) ↔ n = 0 := by
  rw [lg_cmp_eq, show (0 : Int64) = lN 0 from rfl, pk_lEQ h (by omega)]
section MZ
variable {N m : Nat} {f : Nat → Int32} {a : Nat → Nat → Int32} {b : Nat → Nat → Int64} {s : AS} {σ : Hp} {P H D : Nat} {kd : Nat → Nat} {s0 : Nat}
/-- behind k moves -/
def Wk (P H D : Nat) (kd : Nat → Nat) (ch : Bool) (s0 k : Nat) (W : Nat → Nat) : Prop := (∀ v r, dot 8192 W (stps (lgl P H D kd) (bhd H D kd) (cMv P H D kd) ch v r) = stps (lgl P H D kd) (bhd H D kd) (cMv P H D kd) ch v (r + k) s0) ∧ dot 8192 W (fun _ => 1) ≤ (if ch then 60 else 16) ^ k
theorem Wk.bd {ch : Bool} {k : Nat} {W : Nat → Nat} (h : Wk P H D kd ch s0 k W) (hk : (if ch then 60 else 16) ^ k < 2 ^ 60) : ∀ x, x < 8192 → W x < 2 ^ 60 := fun x hx => by
  have h1 := dot_term (W := W) (v := fun _ => 1) hx
  rw [Nat.mul_one] at h1
  exact Nat.lt_of_le_of_lt (Nat.le_trans h1 h.2) hk
theorem Wk.next {ch : Bool} {k : Nat} {W W' : Nat → Nat} (h : Wk P H D kd ch s0 k W) (hs : ∀ v, dot 8192 W' v = dot 8192 W (stp (lgl P H D kd) (bhd H D kd) (cMv P H D kd) ch v)) : Wk P H D kd ch s0 (k + 1) W' := by
  refine ⟨fun v r => ?_, ?_⟩
  · rw [hs, show stp (lgl P H D kd) (bhd H D kd) (cMv P H D kd) ch (stps (lgl P H D kd) (bhd H D kd) (cMv P H D kd) ch v r) = stps (lgl P H D kd) (bhd H D kd) (cMv P H D kd) ch v (r + 1) from rfl, h.1 v (r + 1)]
    congr 1; omega
  · rw [hs, Nat.pow_succ]
    refine Nat.le_trans (dot_le (c := if ch then 60 else 16) (fun x _ => ?_)) (Nat.mul_le_mul_right _ h.2)
    cases ch with
    | false => exact stp_1f (cMv_ok P H D kd x)
    | true => exact stp_1 (cMv_ok P H D kd x)
theorem Wk.start {ch : Bool} (h : s0 < 8192) : Wk P H D kd ch s0 0 (vu (fun _ => 0) s0 1) := by
  refine ⟨fun v r => ?_, ?_⟩
  · rw [dot_one h]; rfl
  · rw [dot_one h, Nat.pow_zero]; exact Nat.le_refl _
theorem pow_b (ch : Bool) {k n : Nat} (hk : k ≤ n) (hn : n ≤ (if ch then 7 else 12)) : (if ch then 60 else 16) ^ k < 2 ^ 60 := by
  cases ch with
  | false =>
    have hn : n ≤ 12 := hn
    have : 16 ^ k ≤ 16 ^ 12 := Nat.pow_le_pow_right (by omega) (by omega)
    exact Nat.lt_of_le_of_lt this (by decide)
  | true =>
    have hn : n ≤ 7 := hn
    have : 60 ^ k ≤ 60 ^ 7 := Nat.pow_le_pow_right (by omega) (by omega)
    exact Nat.lt_of_le_of_lt this (by decide)
theorem ways_88 (hN : 66 ≤ N) (hT : Told f (a 58) P H D kd) {n : Nat} (hn : n ≤ 12) (v5 : Int32) : ∀ (r t k : Nat) (b : Nat → Nat → Int64) (W : Nat → Nat), k + r = n → r < t → Wts (b 63) W → Wk P H D kd false s0 k W → ∃ b' W', L_X9_ways_88 N 53 (nI n) v5 t (MH σ f a b) (nI k) = some (MH σ f a b') ∧ Wts (b' 63) W' ∧ Wk P H D kd false s0 n W' := by
  intro r
  induction r with
  | zero =>
    intro t k b W hk ht hW hw
    obtain ⟨t, rfl⟩ : ∃ k, t = k + 1 := ⟨t - 1, by omega⟩
    obtain rfl : k = n := by omega
    exact ⟨b, W, by rw [L_X9_ways_88.eq_2, if_pos (nI_le (Nat.le_refl _) (by omega))], hW, hw⟩
  | succ r ih =>
    intro t k b W hk ht hW hw
    obtain ⟨t, rfl⟩ : ∃ k, t = k + 1 := ⟨t - 1, by omega⟩
    obtain ⟨b1, W1, g1, g2, g3⟩ := stepWays_ok (N := N) (σ := σ) hN hT (hw.bd (pow_b false (show k ≤ 12 by omega) (Nat.le_refl _))) false hW
    obtain ⟨b2, W2, k1, k2, k3⟩ := ih t (k + 1) b1 W1 (by omega) (by omega) g2 (hw.next g3)
    refine ⟨b2, W2, ?_, k2, k3⟩
    rw [L_X9_ways_88.eq_2, if_neg (nI_ge (by omega) (by omega)), show m_X9_stepWays N (MH σ f a b) 53 0 = _ from g1]
    simp only [Option.bind_some]
    rw [nI_1]
    exact k1
theorem mo_ways (hN : 66 ≤ N) (h : RM f a s) (hv : VA m s) (hm : m < 2 ^ 30) (r i n : Int32) : MOpJ N f a b (fun σ => m_X9_ways N σ 53 r i n) (o_ways s r i n).1 (o_ways s r i n).2 := by
  intro σ
  show ∃ f' a' b', m_X9_ways N (MH σ f a b) 53 r i n = _ ∧ _
  have hV := hv.2.2.1
  have hB := h.2.2.2.2.1
  obtain ⟨_, h6, hP, _⟩ := hV.d4
  unfold m_X9_ways o_ways
  rw [MH_rv hN, isBoard_ok hN h hv]
  simp only [Option.bind_some, ite01]
  by_cases c1 : s.bd.P = 0
  · rw [if_pos c1, if_pos c1]; exact ⟨f, a, b, rfl, h⟩
  rw [if_neg c1, if_neg c1, isRow_ok]
  simp only [Option.bind_some, ite10]
  by_cases c2 : 0 ≤ r ∧ r ≤ 7
  · rw [if_pos c2, if_pos c2]
    obtain ⟨q, hq, rfl⟩ := i7 c2
    rw [show m_X9_in n.toInt64 0 12 = m_X9_in n.toInt64 (0 : Int32).toInt64 (12 : Int32).toInt64 by rw [show (0 : Int64) = (0 : Int32).toInt64 by decide +kernel, show (12 : Int64) = (12 : Int32).toInt64 by decide +kernel], i64_in]
    simp only [Option.bind_some, ite10]
    by_cases c3 : 0 ≤ n ∧ n ≤ 12
    · rw [if_pos c3, if_pos c3, MH_r10 hN]
      simp only [Option.bind_some]
      rw [show (2 : Int32) = nI 2 from rfl, MH_a58 hN (by omega), show a 58 2 = nI s.bd.D from hB.2.2.1]
      simp only [Option.bind_some]
      rw [wrongOf_ok hN h hv hq, nt_nI (by omega)]
      simp only [Option.bind_some]
      by_cases c4 : wrg s q i (nI s.bd.D) = 0
      · rw [if_pos c4, if_pos c4]
        obtain ⟨u, rfl, hu⟩ := wrg_D h6 (hv.1 q hq).2 c4
        obtain ⟨n, hn, rfl⟩ := ni_of (n := 12) (by omega) c3.1 c3.2
        rw [MH_put (j := 3) hN (by omega)]
        simp only [Option.bind_some]
        have h' : RM (upd f 3 0) a (s.fnd 0) := h.fnd 0
        have hv' : VA m (s.fnd 0) := hv
        have htl := tld_ok (N := N) (σ := σ) (b := b) hN h' hv' hq (u := u) hu
        rw [show m_X9_told N (MH σ (upd f 3 0) a b) 53 (nI q) (nI u) = some (tldI s.bd.P (fun d => s.items q (u + d)) s.bd.D) from htl, nt_nI (by omega), nt_nI (by omega)]
        simp only [Option.bind_some]
        unfold tldI
        by_cases c5 : tOK s.bd.P (fun d => s.items q (u + d)) s.bd.D = true
        · have hlt := tldN_lt hP c5
          have h46 := pow4_6 h6
          rw [if_pos c5, if_pos c5, if_pos (show (0 : Int32) ≤ _ from nI_ge0 (by unfold tldN at hlt; omega))]
          obtain ⟨b1, g1, g2⟩ := beginsWays_ok (N := N) (σ := σ) (f := upd f 3 0) (b := b) hN hB hV hm
          rw [g1]
          simp only [Option.bind_some]
          have hg : tldN (fun d => s.items q (u + d)) s.bd.D < 4096 := by omega
          rw [show encP (fun d => nt (s.items q (u + d))) s.bd.D = tldN (fun d => s.items q (u + d)) s.bd.D from rfl]
          generalize tldN (fun d => s.items q (u + d)) s.bd.D = g at hg ⊢
          obtain ⟨b2, W, k1, k2, k3⟩ := ways_88 (N := N) (σ := σ) hN (told_of (f := upd f 3 0) hB hV) hn (nI g) n fu 0 b1 _ (by omega) (by show _ < 20000; omega) g2 (Wk.start (stx_lt hV))
          rw [nI_0] at k1
          rw [k1]
          simp only [Option.bind_some]
          rw [MH_r17 hN]
          simp only [Option.bind_some]
          rw [MH_a63 hN (by omega), show nI g + 4096 = nI (g + 4096) from nI_add g 4096, MH_a63 hN (by omega), k2 g (by omega), k2 (g + 4096) (by omega)]
          simp only [Option.bind_some]
          rw [lN_add, ← dot_two hg]
          have hst : dot 8192 W (fun x => if arT g x then 1 else 0) = wyN s.bd g n := by
            have := k3.1 (fun x => if arT g x then 1 else 0) 0
            rw [Nat.zero_add] at this
            exact this
          rw [hst]
          exact ⟨_, a, b2, rfl, h'.tol⟩
        · rw [if_neg c5, if_neg c5, if_neg (show ¬ (0 : Int32) ≤ -1 by decide +kernel)]
          exact ⟨_, a, b, rfl, h'⟩
      · rw [if_neg c4, if_neg c4, finds_ok hN]
        exact ⟨_, a, b, rfl, h.fnd _⟩
    · rw [if_neg c3, if_neg c3]; exact ⟨f, a, b, rfl, h⟩
  · rw [if_neg c2, if_neg c2]; exact ⟨f, a, b, rfl, h⟩
theorem chance_53 (hN : 66 ≤ N) (hT : Told f (a 58) P H D kd) {n : Nat} (hn : n ≤ 7) (v1 v2 v4 : Int32) : ∀ (r t k : Nat) (b : Nat → Nat → Int64) (W : Nat → Nat), k + r = n → r < t → Wts (b 63) W → Wk P H D kd true s0 k W → ∃ b' W', L_X9_chance_53 N 53 v1 v2 (nI n) v4 t (MH σ f a b) (lN (60 ^ k)) (nI k) = some (lN (60 ^ n), MH σ f a b') ∧ Wts (b' 63) W' ∧ Wk P H D kd true s0 n W' := by
  intro r
  induction r with
  | zero =>
    intro t k b W hk ht hW hw
    obtain ⟨t, rfl⟩ : ∃ k, t = k + 1 := ⟨t - 1, by omega⟩
    obtain rfl : k = n := by omega
    exact ⟨b, W, by rw [L_X9_chance_53.eq_2, if_pos (nI_le (Nat.le_refl _) (by omega))], hW, hw⟩
  | succ r ih =>
    intro t k b W hk ht hW hw
    obtain ⟨t, rfl⟩ : ∃ k, t = k + 1 := ⟨t - 1, by omega⟩
    obtain ⟨b1, W1, g1, g2, g3⟩ := stepWays_ok (N := N) (σ := σ) hN hT (hw.bd (pow_b true (show k ≤ 7 by omega) (Nat.le_refl _))) true hW
    obtain ⟨b2, W2, k1, k2, k3⟩ := ih t (k + 1) b1 W1 (by omega) (by omega) g2 (hw.next g3)
    refine ⟨b2, W2, ?_, k2, k3⟩
    rw [L_X9_chance_53.eq_2, if_neg (nI_ge (by omega) (by omega)), show m_X9_stepWays N (MH σ f a b) 53 1 = _ from g1]
    simp only [Option.bind_some]
    rw [nI_1, show (60 : Int64) = lN 60 from rfl, lN_mul, ← Nat.pow_succ]
    exact k1
theorem chance_84 (hN : 66 ≤ N) {W : Nat → Nat} (hW : Wts (b 63) W) {d p : Nat} (hd : d < 6) (hp : p < 4) (v4 : Int32) (v5 : Int64) : ∀ (r t x : Nat), x + r = 8192 → r < t → L_X9_chance_84 N (MH σ f a b) 53 (nI d) (nI p) v4 v5 t (lN (sgm (fun x => W x * (if pgx x d == p then 1 else 0)) x)) (nI x) = some (lN (dot 8192 W (fun x => if pgx x d == p then 1 else 0))) := by
  intro r
  induction r with
  | zero =>
    intro t x hx ht
    obtain ⟨t, rfl⟩ : ∃ k, t = k + 1 := ⟨t - 1, by omega⟩
    obtain rfl : x = 8192 := by omega
    rw [L_X9_chance_84.eq_2, if_pos (show (8192 : Int32) ≤ nI 8192 by decide +kernel)]
    rfl
  | succ r ih =>
    intro t x hx ht
    obtain ⟨t, rfl⟩ : ∃ k, t = k + 1 := ⟨t - 1, by omega⟩
    have hrec := ih t (x + 1) (by omega) (by omega)
    have hpx := pgx_lt x d
    rw [L_X9_chance_84.eq_2, if_neg (show ¬ (8192 : Int32) ≤ nI x by rw [show (8192 : Int32) = nI 8192 from rfl, nI_leI (by omega) (by omega)]; omega), pegIn_ok (by omega) (by omega)]
    simp only [Option.bind_some]
    rw [nI_1]
    rw [sgm] at hrec
    by_cases c : pgx x d = p
    · rw [if_pos (show nI (pgx x d) = nI p by rw [c]), MH_r17 hN]
      simp only [Option.bind_some]
      rw [MH_a63 hN (by omega), hW x (by omega)]
      simp only [Option.bind_some]
      rw [if_pos (show (pgx x d == p) = true from beq_iff_eq.mpr c), Nat.mul_one] at hrec
      rw [lN_add]
      exact hrec
    · rw [if_neg (show ¬ nI (pgx x d) = nI p from fun e => c ((nI_eq (by omega) (by omega)).mp e)), show (0 : Int64) = lN 0 from rfl, lN_add]
      rw [if_neg (show ¬ (pgx x d == p) = true from fun e => c (beq_iff_eq.mp e)), Nat.mul_zero] at hrec
      exact hrec
theorem chance_132 {v4 : Int32} {v5 v7 : Int64} : ∀ (n t a b : Nat), b < 2 ^ n → a < 2 ^ 62 → b < 2 ^ 62 → 2 * n < t → L_X9_chance_132 N σ v4 v5 v7 t (lN a) (lN b) = some (lN (gcl (2 * n) a b)) := by
  have stop : ∀ (t a : Nat), L_X9_chance_132 N σ v4 v5 v7 (t + 1) (lN a) (lN 0) = some (lN a) := fun t a => by
    rw [L_X9_chance_132.eq_2, if_pos (show lg_cmp (lN 0) 0 = 0 from (lcmp_eq (by omega)).mpr rfl)]
  have go : ∀ (t a b : Nat), 0 < b → a < 2 ^ 62 → b < 2 ^ 62 → L_X9_chance_132 N σ v4 v5 v7 (t + 1) (lN a) (lN b) = L_X9_chance_132 N σ v4 v5 v7 t (lN b) (lN (a % b)) := fun t a b h0 ha hb => by
    rw [L_X9_chance_132.eq_2, if_neg (show ¬ lg_cmp (lN b) 0 = 0 from fun e => by have := (lcmp_eq (by omega)).mp e; omega), nzJ, if_neg (lN_ne0 h0 (by omega))]
    simp only [Option.bind_some]
    rw [pk_lRem (by omega) h0 (by omega)]
  intro n
  induction n with
  | zero =>
    intro t a b hb ha hb2 ht
    obtain ⟨t, rfl⟩ : ∃ k, t = k + 1 := ⟨t - 1, by omega⟩
    obtain rfl : b = 0 := by omega
    exact stop t a
  | succ n ih =>
    intro t a b hb ha hb2 ht
    obtain ⟨t, rfl⟩ : ∃ k, t = k + 2 := ⟨t - 2, by omega⟩
    rw [show 2 * (n + 1) = 2 * n + 1 + 1 by omega, gcl_s]
    by_cases c : b = 0
    · subst c
      rw [if_pos rfl]
      exact stop _ a
    · rw [if_neg c, gcl_s, show t + 2 = (t + 1) + 1 from rfl, go (t + 1) a b (by omega) ha hb2]
      have h1 : a % b < b := Nat.mod_lt _ (by omega)
      by_cases c2 : a % b = 0
      · rw [if_pos c2, c2]
        exact stop t b
      · rw [if_neg c2, go t b (a % b) (by omega) hb2 (by omega)]
        have h2 : b % (a % b) < a % b := Nat.mod_lt _ (by omega)
        have h3 : b % (a % b) + a % b ≤ b := by
          have := Nat.div_add_mod b (a % b)
          have h4 : 1 ≤ b / (a % b) := (Nat.le_div_iff_mul_le (by omega)).mpr (by omega)
          have := Nat.mul_le_mul_left (a % b) h4
          omega
        rw [Nat.pow_succ] at hb
        exact ih t _ _ (by omega) (by omega) (by omega) (by omega)
theorem mo_chance (hN : 66 ≤ N) (h : RM f a s) (hv : VA m s) (hm : m < 2 ^ 30) (d p n w : Int32) : MOpJ N f a b (fun σ => m_X9_chance N σ 53 d p n w) (o_chance s d p n w) s := by
  intro σ
  show ∃ f' a' b', m_X9_chance N (MH σ f a b) 53 d p n w = _ ∧ _
  have hV := hv.2.2.1
  have hB := h.2.2.2.2.1
  obtain ⟨_, h6, hP, _⟩ := hV.d4
  unfold m_X9_chance o_chance
  rw [MH_rv hN, isDisc_ok hN h hv, isPeg_ok hN h hv]
  simp only [Option.bind_some, ite10]
  by_cases c1 : 0 ≤ d ∧ d < nI s.bd.D
  · rw [if_pos c1, if_pos c1]
    by_cases c2 : 0 ≤ p ∧ p < nI s.bd.P
    · rw [if_pos c2, if_pos c2, show m_X9_in n.toInt64 0 7 = m_X9_in n.toInt64 (0 : Int32).toInt64 (7 : Int32).toInt64 by rw [show (0 : Int64) = (0 : Int32).toInt64 by decide +kernel, show (7 : Int64) = (7 : Int32).toInt64 by decide +kernel], i64_in]
      simp only [Option.bind_some, ite10]
      by_cases c3 : 0 ≤ n ∧ n ≤ 7
      · rw [if_pos c3, if_pos c3, show m_X9_in w.toInt64 0 1 = m_X9_in w.toInt64 (0 : Int32).toInt64 (1 : Int32).toInt64 by rw [show (0 : Int64) = (0 : Int32).toInt64 by decide +kernel, show (1 : Int64) = (1 : Int32).toInt64 by decide +kernel], i64_in]
        simp only [Option.bind_some, ite10]
        by_cases c4 : 0 ≤ w ∧ w ≤ 1
        · rw [if_pos c4, if_pos c4]
          obtain ⟨n, hn, rfl⟩ := ni_of (n := 7) (by omega) c3.1 c3.2
          obtain ⟨d, hd, rfl⟩ := ni_of (n := s.bd.D) (by omega) c1.1 (by rw [Int32.le_iff_toInt_le]; have := c1.2; rw [Int32.lt_iff_toInt_lt] at this; omega)
          obtain ⟨p, hp, rfl⟩ := ni_of (n := s.bd.P) (by omega) c2.1 (by rw [Int32.le_iff_toInt_le]; have := c2.2; rw [Int32.lt_iff_toInt_lt] at this; omega)
          have hd' := c1.2
          have hp' := c2.2
          rw [nI_ltI (by omega) (by omega)] at hd' hp'
          rw [nt_nI (by omega), nt_nI (by omega), nt_nI (by omega)]
          obtain ⟨b1, g1, g2⟩ := beginsWays_ok (N := N) (σ := σ) (f := f) (b := b) hN hB hV hm
          rw [g1]
          simp only [Option.bind_some]
          obtain ⟨b2, W, k1, k2, k3⟩ := chance_53 (N := N) (σ := σ) hN (told_of (f := f) hB hV) hn (nI d) (nI p) w n fu 0 b1 _ (by omega) (by show _ < 20000; omega) g2 (Wk.start (stx_lt hV))
          rw [nI_0, show lN (60 ^ 0) = 1 from rfl] at k1
          rw [k1]
          simp only [Option.bind_some]
          have h84 := chance_84 (N := N) (σ := σ) (f := tolF f (a 58)) (a := a) hN k2 (show d < 6 by omega) (show p < 4 by omega) w (lN (60 ^ n)) 8192 fu 0 (by omega) (by decide)
          rw [show sgm (fun x => W x * (if pgx x d == p then 1 else 0)) 0 = 0 from rfl, nI_0, show lN 0 = 0 from rfl] at h84
          rw [h84]
          simp only [Option.bind_some]
          have hst : dot 8192 W (fun x => if pgx x d == p then 1 else 0) = chN s.bd d p n := by
            have := k3.1 (fun x => if pgx x d == p then 1 else 0) 0
            rw [Nat.zero_add] at this
            exact this
          have h60 : 60 ^ n ≤ 60 ^ 7 := Nat.pow_le_pow_right (by omega) hn
          have h42 : 60 ^ 7 < 2 ^ 42 := by decide
          have hup : chN s.bd d p n ≤ 60 ^ n := by
            rw [← hst]
            have h1 : dot 8192 W (fun x => if pgx x d == p then 1 else 0) ≤ dot 8192 W (fun _ => 1) * 1 := dot_le (fun x _ => by cases pgx x d == p <;> simp)
            rw [Nat.mul_one] at h1
            exact Nat.le_trans h1 k3.2
          have hpos : 0 < 60 ^ n := Nat.pow_pos (by omega)
          rw [hst, chance_132 42 fu _ _ (by omega) (by omega) (by omega) (by decide)]
          simp only [Option.bind_some]
          have hgp := gcl_pos 42 (chN s.bd d p n) (60 ^ n) (by omega) (by omega)
          have hge := gcl_end 42 (chN s.bd d p n) (60 ^ n) (by omega) 200 (by omega)
          have hgl : gcl (2 * 42) (chN s.bd d p n) (60 ^ n) < 2 ^ 62 := by
            have : ∀ r x y, x < 2 ^ 62 → y < 2 ^ 62 → gcl r x y < 2 ^ 62 := by
              intro r
              induction r with
              | zero => intro x y hx _; exact hx
              | succ r ih =>
                intro x y hx hy
                rw [gcl_s]
                split
                · exact hx
                · next hc => exact ih _ _ hy (Nat.lt_trans (Nat.mod_lt _ (by omega)) hy)
            exact this _ _ _ (by omega) (by omega)
          rw [hge]
          generalize hG : gcl (2 * 42) (chN s.bd d p n) (60 ^ n) = G at hgp hgl ⊢
          rw [nzJ, if_neg (lN_ne0 hgp (by omega))]
          simp only [Option.bind_some]
          rw [pk_lDiv (by omega) hgp (by omega), pk_lDiv (by omega) hgp (by omega)]
          by_cases cw : w = 0
          · rw [if_pos cw, if_pos cw]; exact ⟨_, a, b2, rfl, h.tol⟩
          · rw [if_neg cw, if_neg cw]; exact ⟨_, a, b2, rfl, h.tol⟩
        · rw [if_neg c4, if_neg c4]; exact ⟨f, a, b, rfl, h⟩
      · rw [if_neg c3, if_neg c3]; exact ⟨f, a, b, rfl, h⟩
    · rw [if_neg c2, if_neg c2]; exact ⟨f, a, b, rfl, h⟩
  · rw [if_neg c1, if_neg c1]; exact ⟨f, a, b, rfl, h⟩
end MZ
