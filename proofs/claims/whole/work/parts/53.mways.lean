/-! the reference: ways, chance -/
theorem bcR_sgm (s : Nat) : ∀ k, bcR s k = sgm (fun j => if s.testBit j then 1 else 0) k := by
  intro k
  induction k with
  | zero => rfl
  | succ k ih => rw [bcR, sgm, ih, tb_div]
/-- how many moves may be -/
def cMv (P H D : Nat) (kd : Nat → Nat) (x : Nat) : Nat := cnt (mms P H D kd x)
theorem cMv_ok (P H D : Nat) (kd : Nat → Nat) (x : Nat) : sgm (fun k => if lgl P H D kd x k then 1 else 0) 16 = cMv P H D kd x := (bcR_sgm _ 16).symm
theorem cMv_le (P H D : Nat) (kd : Nat → Nat) (x : Nat) : cMv P H D kd x ≤ 16 := bcR_le _ 16
/-- a call whose answer is a long -/
def MOpJ (N : Nat) (f : Nat → Int32) (a : Nat → Nat → Int32) (b : Nat → Nat → Int64) (m : Hp → Option (Int64 × Hp)) (r : Int64) (s' : AS) : Prop :=
  ∀ σ : Hp, ∃ f' a' b', m (MH σ f a b) = some (r, MH σ f' a' b') ∧ RM f' a' s'
theorem updL_s {f : Nat → Int64} {k : Nat} {v : Int64} : vp_updL f k v k = v := if_pos rfl
theorem updL_n {f : Nat → Int64} {k j : Nat} {v : Int64} (h : j ≠ k) : vp_updL f k v j = f j := if_neg h
/-- weights in a row of longs -/
def Wts (b : Nat → Int64) (W : Nat → Nat) : Prop := ∀ x, x < 8192 → b x = lN (W x)
theorem lcmp_pos {n : Nat} (h : n < 2 ^ 63) : (lg_cmp (lN n) 0 ≤ 0) ↔ n = 0 := by
  rw [show (0 : Int64) = lN 0 from rfl]
  rw [lg_cmp_le, pk_lLE h (by omega)]
  omega
section MY
variable {N m : Nat} {f : Nat → Int32} {a : Nat → Nat → Int32} {b : Nat → Nat → Int64} {s : AS} {σ : Hp} {P H D : Nat} {kd : Nat → Nat} {s0 : Nat}
theorem bw_6 (hN : 66 ≤ N) : ∀ (r t j : Nat) (b : Nat → Nat → Int64), j + r = 8192 → r < t → ∃ b', L_X9_beginsWays_6 N 53 t (MH σ f a b) (nI j) = some (MH σ f a b') ∧ (∀ i, i ≠ 63 → b' i = b i) ∧ ∀ i, i < 8192 → b' 63 i = if j ≤ i then 0 else b 63 i := by
  intro r
  induction r with
  | zero =>
    intro t j b hj ht
    obtain ⟨t, rfl⟩ : ∃ k, t = k + 1 := ⟨t - 1, by omega⟩
    obtain rfl : j = 8192 := by omega
    refine ⟨b, ?_, fun _ _ => rfl, fun i hi => ?_⟩
    · rw [L_X9_beginsWays_6.eq_2, if_pos (show (8192 : Int32) ≤ nI 8192 by decide +kernel)]
    · rw [if_neg (by omega)]
  | succ r ih =>
    intro t j b hj ht
    obtain ⟨t, rfl⟩ : ∃ k, t = k + 1 := ⟨t - 1, by omega⟩
    obtain ⟨b', h1, h2, h3⟩ := ih t (j + 1) (va_up b 63 (vp_updL (b 63) j 0)) (by omega) (by omega)
    refine ⟨b', ?_, fun i hi => by rw [h2 i hi, vup_n hi], fun i hi => ?_⟩
    · rw [L_X9_beginsWays_6.eq_2, if_neg (show ¬ (8192 : Int32) ≤ nI j by rw [show (8192 : Int32) = nI 8192 from rfl, nI_leI (by omega) (by omega)]; omega), MH_r17 hN]
      simp only [Option.bind_some]
      rw [MH_s63 hN (by omega)]
      simp only [Option.bind_some]
      rw [nI_1]
      exact h1
    · rw [h3 i hi, vup_s]
      by_cases c : i = j
      · subst c; rw [if_neg (show ¬ i + 1 ≤ i by omega), updL_s, if_pos (Nat.le_refl i)]
      · rw [updL_n c]
        by_cases c2 : j + 1 ≤ i
        · rw [if_pos c2, if_pos (show j ≤ i by omega)]
        · rw [if_neg c2, if_neg (show ¬ j ≤ i by omega)]
theorem sw_2 (hN : 66 ≤ N) (v1 : Int32) : ∀ (r t j : Nat) (b : Nat → Nat → Int64), j + r = 8192 → r < t → ∃ b', L_X9_stepWays_2 N 53 v1 t (MH σ f a b) (nI j) = some (MH σ f a b') ∧ (∀ i, i ≠ 64 → b' i = b i) ∧ ∀ i, i < 8192 → b' 64 i = if j ≤ i then 0 else b 64 i := by
  intro r
  induction r with
  | zero =>
    intro t j b hj ht
    obtain ⟨t, rfl⟩ : ∃ k, t = k + 1 := ⟨t - 1, by omega⟩
    obtain rfl : j = 8192 := by omega
    refine ⟨b, ?_, fun _ _ => rfl, fun i hi => ?_⟩
    · rw [L_X9_stepWays_2.eq_2, if_pos (show (8192 : Int32) ≤ nI 8192 by decide +kernel)]
    · rw [if_neg (by omega)]
  | succ r ih =>
    intro t j b hj ht
    obtain ⟨t, rfl⟩ : ∃ k, t = k + 1 := ⟨t - 1, by omega⟩
    obtain ⟨b', h1, h2, h3⟩ := ih t (j + 1) (va_up b 64 (vp_updL (b 64) j 0)) (by omega) (by omega)
    refine ⟨b', ?_, fun i hi => by rw [h2 i hi, vup_n hi], fun i hi => ?_⟩
    · rw [L_X9_stepWays_2.eq_2, if_neg (show ¬ (8192 : Int32) ≤ nI j by rw [show (8192 : Int32) = nI 8192 from rfl, nI_leI (by omega) (by omega)]; omega), MH_r18 hN]
      simp only [Option.bind_some]
      rw [MH_s64 hN (by omega)]
      simp only [Option.bind_some]
      rw [nI_1]
      exact h1
    · rw [h3 i hi, vup_s]
      by_cases c : i = j
      · subst c; rw [if_neg (show ¬ i + 1 ≤ i by omega), updL_s, if_pos (Nat.le_refl i)]
      · rw [updL_n c]
        by_cases c2 : j + 1 ≤ i
        · rw [if_pos c2, if_pos (show j ≤ i by omega)]
        · rw [if_neg c2, if_neg (show ¬ j ≤ i by omega)]
theorem sw_189 (hN : 66 ≤ N) : ∀ (r t j : Nat) (b : Nat → Nat → Int64), j + r = 8192 → r < t → ∃ b', L_X9_stepWays_189 N 53 t (MH σ f a b) (nI j) = some (MH σ f a b') ∧ ∀ i, i < 8192 → b' 63 i = if j ≤ i then b 64 i else b 63 i := by
  intro r
  induction r with
  | zero =>
    intro t j b hj ht
    obtain ⟨t, rfl⟩ : ∃ k, t = k + 1 := ⟨t - 1, by omega⟩
    obtain rfl : j = 8192 := by omega
    refine ⟨b, ?_, fun i hi => ?_⟩
    · rw [L_X9_stepWays_189.eq_2, if_pos (show (8192 : Int32) ≤ nI 8192 by decide +kernel)]
    · rw [if_neg (by omega)]
  | succ r ih =>
    intro t j b hj ht
    obtain ⟨t, rfl⟩ : ∃ k, t = k + 1 := ⟨t - 1, by omega⟩
    obtain ⟨b', h1, h3⟩ := ih t (j + 1) (va_up b 63 (vp_updL (b 63) j (b 64 j))) (by omega) (by omega)
    refine ⟨b', ?_, fun i hi => ?_⟩
    · rw [L_X9_stepWays_189.eq_2, if_neg (show ¬ (8192 : Int32) ≤ nI j by rw [show (8192 : Int32) = nI 8192 from rfl, nI_leI (by omega) (by omega)]; omega), MH_r17 hN, MH_r18 hN]
      simp only [Option.bind_some]
      rw [MH_a64 hN (by omega)]
      simp only [Option.bind_some]
      rw [MH_s63 hN (by omega)]
      simp only [Option.bind_some]
      rw [nI_1]
      exact h1
    · rw [h3 i hi, vup_s, vup_n (show 64 ≠ 63 by decide)]
      by_cases c : i = j
      · subst c; rw [if_neg (show ¬ i + 1 ≤ i by omega), updL_s, if_pos (Nat.le_refl i)]
      · rw [updL_n c]
        by_cases c2 : j + 1 ≤ i
        · rw [if_pos c2, if_pos (show j ≤ i by omega)]
        · rw [if_neg c2, if_neg (show ¬ j ≤ i by omega)]
theorem sw_54 {st : Nat} (hs : st < 65536) {v0 : Nat} {v1 v2 : Int32} : ∀ (r n j : Nat), j + r = 16 → r < n → L_X9_stepWays_54 N σ v0 v1 v2 (nI st) n (nI (bcR st j)) (nI j) = some (nI (cnt st)) := by
  intro r
  induction r with
  | zero =>
    intro n j hj hn
    obtain ⟨n, rfl⟩ : ∃ k, n = k + 1 := ⟨n - 1, by omega⟩
    obtain rfl : j = 16 := by omega
    rw [L_X9_stepWays_54.eq_2, if_pos (show (16 : Int32) ≤ nI 16 by decide +kernel)]
    rfl
  | succ r ih =>
    intro n j hj hn
    obtain ⟨n, rfl⟩ : ∃ k, n = k + 1 := ⟨n - 1, by omega⟩
    rw [L_X9_stepWays_54.eq_2, if_neg (show ¬ (16 : Int32) ≤ nI j by rw [show (16 : Int32) = nI 16 from rfl, nI_leI (by omega) (by omega)]; omega), ni_bit (by omega) (by omega), nI_add, lt, nI_1]
    exact ih n (j + 1) (by omega) (by omega)
/-- a state's weight goes to those that are behind its moves -/
theorem sw_103 (hN : 66 ≤ N) (hT : Told f (a 58) P H D kd) {x : Nat} (hx : x < 8192) {W : Nat → Nat} {q : Nat} {v1 v4 : Int32} : ∀ (r t k : Nat) (b : Nat → Nat → Int64) (M : Nat → Nat), k + r = 16 → r < t → Wts (b 63) W → Wts (b 64) M → ∃ b' M', L_X9_stepWays_103 N 53 v1 (nI x) (nI (mms P H D kd x)) v4 (lN q) t (MH σ f a b) (nI k) = some (MH σ f a b') ∧ (∀ i, i ≠ 64 → b' i = b i) ∧ Wts (b' 64) M' ∧ ∀ v, dot 8192 M' v + sgm (fun k => if lgl P H D kd x k then W x * q * v (bhd H D kd x k) else 0) k = dot 8192 M v + sgm (fun k => if lgl P H D kd x k then W x * q * v (bhd H D kd x k) else 0) 16 := by
  have hm := mms_lt P H D kd x
  intro r
  induction r with
  | zero =>
    intro t k b M hk ht hW hM
    obtain ⟨t, rfl⟩ : ∃ k, t = k + 1 := ⟨t - 1, by omega⟩
    obtain rfl : k = 16 := by omega
    exact ⟨b, M, by rw [L_X9_stepWays_103.eq_2, if_pos (show (16 : Int32) ≤ nI 16 by decide +kernel)], fun _ _ => rfl, hM, fun _ => rfl⟩
  | succ r ih =>
    intro t k b M hk ht hW hM
    obtain ⟨t, rfl⟩ : ∃ k, t = k + 1 := ⟨t - 1, by omega⟩
    rw [L_X9_stepWays_103.eq_2, if_neg (show ¬ (16 : Int32) ≤ nI k by rw [show (16 : Int32) = nI 16 from rfl, nI_leI (by omega) (by omega)]; omega), has_ok (by omega) (by omega)]
    simp only [Option.bind_some]
    rw [nI_1]
    cases e : (mms P H D kd x).testBit k with
    | false =>
      have hl : lgl P H D kd x k = false := e
      simp only [Bool.false_eq_true, if_false, if_true]
      obtain ⟨b', M', g1, g2, g3, g4⟩ := ih t (k + 1) b M (by omega) (by omega) hW hM
      refine ⟨b', M', g1, g2, g3, fun v => ?_⟩
      have := g4 v
      rw [sgm, hl] at this
      exact this
    | true =>
      have hl : lgl P H D kd x k = true := e
      have hy := bhd_lt hx hl
      simp only [if_true]
      rw [if_neg (show ¬ (1 : Int32) = 0 by decide +kernel), MH_r18 hN, behind_ok hN hT hx hl, MH_r17 hN]
      simp only [Option.bind_some]
      rw [MH_a64 hN hy, MH_a63 hN hx, hW x hx, hM _ hy]
      simp only [Option.bind_some]
      rw [MH_s64 hN hy, lN_mul, lN_add]
      simp only [Option.bind_some]
      obtain ⟨b', M', g1, g2, g3, g4⟩ := ih t (k + 1) (va_up b 64 (vp_updL (b 64) (bhd H D kd x k) (lN (M (bhd H D kd x k) + W x * q)))) (vu M (bhd H D kd x k) (M (bhd H D kd x k) + W x * q)) (by omega) (by omega) (by rw [vup_n (by decide)]; exact hW) (fun z hz => by
        rw [vup_s]
        by_cases c : z = bhd H D kd x k
        · subst c; rw [updL_s, vu_s]
        · rw [updL_n c, vu_n c]; exact hM z hz)
      refine ⟨b', M', g1, fun i hi => by rw [g2 i hi, vup_n hi], g3, fun v => ?_⟩
      have := g4 v
      rw [dot_up hy, sgm, hl] at this
      simp only [if_true] at this
      omega
/-- a move ahead, of all states below x -/
theorem sw_24 (hN : 66 ≤ N) (hT : Told f (a 58) P H D kd) {W : Nat → Nat} (hB : ∀ x, x < 8192 → W x < 2 ^ 60) (ch : Bool) : ∀ (r t x : Nat) (b : Nat → Nat → Int64) (M : Nat → Nat), x + r = 8192 → r < t → Wts (b 63) W → Wts (b 64) M → (∀ v, dot 8192 M v = sgm (fun z => W z * stp (lgl P H D kd) (bhd H D kd) (cMv P H D kd) ch v z) x) → ∃ b' M', L_X9_stepWays_24 N 53 (bI ch) t (MH σ f a b) (nI x) = some (MH σ f a b') ∧ (∀ i, i ≠ 64 → b' i = b i) ∧ Wts (b' 64) M' ∧ ∀ v, dot 8192 M' v = dot 8192 W (stp (lgl P H D kd) (bhd H D kd) (cMv P H D kd) ch v) := by
  intro r
  induction r with
  | zero =>
    intro t x b M hx ht hW hM hd
    obtain ⟨t, rfl⟩ : ∃ k, t = k + 1 := ⟨t - 1, by omega⟩
    obtain rfl : x = 8192 := by omega
    exact ⟨b, M, by rw [L_X9_stepWays_24.eq_2, if_pos (show (8192 : Int32) ≤ nI 8192 by decide +kernel)], fun _ _ => rfl, hM, hd⟩
  | succ r ih =>
    intro t x b M hx ht hW hM hd
    obtain ⟨t, rfl⟩ : ∃ k, t = k + 1 := ⟨t - 1, by omega⟩
    have hx8 : x < 8192 := by omega
    have hWx := hB x hx8
    have hm := mms_lt P H D kd x
    have hc16 := cMv_le P H D kd x
    rw [L_X9_stepWays_24.eq_2, if_neg (show ¬ (8192 : Int32) ≤ nI x by rw [show (8192 : Int32) = nI 8192 from rfl, nI_leI (by omega) (by omega)]; omega), MH_r17 hN]
    simp only [Option.bind_some]
    rw [MH_a63 hN hx8, hW x hx8]
    simp only [Option.bind_some]
    rw [nI_1]
    by_cases c0 : W x = 0
    · have hp : lg_cmp (lN (W x)) 0 ≤ 0 := (lcmp_pos (by omega)).mpr c0
      rw [if_pos hp]
      refine ih t (x + 1) b M (by omega) (by omega) hW hM (fun v => ?_)
      rw [hd v, sgm, c0, Nat.zero_mul, Nat.add_zero]
    · have hp : ¬ lg_cmp (lN (W x)) 0 ≤ 0 := fun e => c0 ((lcmp_pos (by omega)).mp e)
      rw [if_neg hp, movesOf_ok hN hT hx8]
      simp only [Option.bind_some]
      have h54 := sw_54 (N := N) (σ := MH σ f a b) (v0 := 53) (v1 := bI ch) (v2 := nI x) hm 16 fu 0 (by omega) (by decide)
      rw [show bcR (mms P H D kd x) 0 = 0 from rfl, nI_0] at h54
      rw [h54]
      simp only [Option.bind_some]
      -- each move's share
      have hby : ∃ q, ((if bI ch = 0 then some 1 else if nI (cnt (mms P H D kd x)) ≤ 0 then some 1 else (nzJ (nI (cnt (mms P H D kd x))).toInt64).bind fun u38 => some (60 / (nI (cnt (mms P H D kd x))).toInt64)) : Option Int64) = some (lN q) ∧ (cMv P H D kd x ≠ 0 → q = byw (cMv P H D kd) ch x) := by
        unfold byw
        have hc : cnt (mms P H D kd x) = cMv P H D kd x := rfl
        rw [hc]
        cases ch with
        | false => exact ⟨1, by rw [if_pos (show bI false = 0 from rfl)]; rfl, fun _ => rfl⟩
        | true =>
          rw [if_neg (show ¬ bI true = 0 by decide +kernel)]
          by_cases c : cMv P H D kd x = 0
          · exact ⟨1, by rw [c, if_pos (show nI 0 ≤ 0 by decide +kernel)]; rfl, fun h => absurd c h⟩
          · refine ⟨60 / cMv P H D kd x, ?_, fun _ => rfl⟩
            rw [if_neg (show ¬ nI (cMv P H D kd x) ≤ 0 from nI_nle (by omega) (by omega)), nI_l (by omega), nzJ, if_neg (show ¬ lN (cMv P H D kd x) = 0 by rw [show (0 : Int64) = lN 0 from rfl, pk_lEQ (by omega) (by omega)]; exact c)]
            simp only [Option.bind_some]
            rw [show (60 : Int64) = lN 60 from rfl, pk_lDiv (by omega) (by omega) (by omega)]
      obtain ⟨q, q1, q2⟩ := hby
      rw [q1]
      simp only [Option.bind_some]
      obtain ⟨b1, M1, g1, g2, g3, g4⟩ := sw_103 (N := N) (σ := σ) (v1 := bI ch) (v4 := nI (cnt (mms P H D kd x))) (q := q) hN hT hx8 16 fu 0 b M (by omega) (by decide) hW hM
      rw [nI_0] at g1
      rw [g1]
      simp only [Option.bind_some]
      rw [MH_r18 hN, MH_r17 hN]
      simp only [Option.bind_some]
      rw [MH_a64 hN hx8, MH_a63 hN hx8, g3 x hx8, g2 63 (by decide), hW x hx8]
      simp only [Option.bind_some]
      -- what stays
      have hst : ((if bI ch = 0 then some 0 else if nI (cnt (mms P H D kd x)) = 0 then some (60 * lN (W x)) else some 0) : Option Int64) = some (lN (if (ch && cMv P H D kd x == 0) = true then 60 * W x else 0)) := by
        have hc : cnt (mms P H D kd x) = cMv P H D kd x := rfl
        rw [hc]
        cases ch with
        | false => rw [if_pos (show bI false = 0 from rfl)]; rfl
        | true =>
          rw [if_neg (show ¬ bI true = 0 by decide +kernel), Bool.true_and]
          by_cases c : cMv P H D kd x = 0
          · rw [c, if_pos (show nI 0 = 0 from rfl), if_pos (show ((0 : Nat) == 0) = true from rfl), show (60 : Int64) = lN 60 from rfl, lN_mul]
          · rw [if_neg (show ¬ nI (cMv P H D kd x) = 0 from nI_ne0 (by omega) (by omega)), if_neg (show ¬ (cMv P H D kd x == 0) = true from fun e => c (beq_iff_eq.mp e))]; rfl
      rw [hst]
      simp only [Option.bind_some]
      rw [MH_s64 hN hx8, lN_add]
      simp only [Option.bind_some]
      refine (fun ⟨b', M', k1, k2, k3, k4⟩ => ⟨b', M', k1, fun i hi => by rw [k2 i hi, vup_n hi, g2 i hi], k3, k4⟩ : _) (ih t (x + 1) _ (vu M1 x (M1 x + if (ch && cMv P H D kd x == 0) = true then 60 * W x else 0)) (by omega) (by omega) (by rw [vup_n (by decide), g2 63 (by decide)]; exact hW) (fun z hz => by
        rw [vup_s]
        by_cases c : z = x
        · subst c; rw [updL_s, vu_s]
        · rw [updL_n c, vu_n c]; exact g3 z hz) (fun v => ?_))
      rw [dot_up hx8, sgm, ← hd v]
      have h1 := g4 v
      rw [show sgm (fun k => if lgl P H D kd x k then W x * q * v (bhd H D kd x k) else 0) 0 = 0 from rfl, Nat.add_zero] at h1
      rw [h1]
      have h2 : sgm (fun k => if lgl P H D kd x k then W x * q * v (bhd H D kd x k) else 0) 16 = W x * sgm (fun k => if lgl P H D kd x k then byw (cMv P H D kd) ch x * v (bhd H D kd x k) else 0) 16 := by
        rw [← sgm_mul]
        refine sgm_congr 16 (fun k hk => ?_)
        by_cases e : lgl P H D kd x k = true
        · rw [if_pos e, if_pos e]
          have hc0 : cMv P H D kd x ≠ 0 := fun h0 => by
            have := sgm_term (f := fun k => if lgl P H D kd x k then 1 else 0) 16 hk
            rw [cMv_ok, h0] at this
            simp only [e, if_true] at this
            omega
          rw [q2 hc0, Nat.mul_assoc]
        · rw [if_neg e, if_neg e, Nat.mul_zero]
      rw [h2, stp, Nat.mul_add]
      by_cases c : (ch && cMv P H D kd x == 0) = true
      · rw [if_pos c, if_pos c]
        have : W x * (60 * v x) = 60 * W x * v x := by rw [← Nat.mul_assoc, Nat.mul_comm (W x) 60]
        omega
      · rw [if_neg c, if_neg c, Nat.zero_mul]
        omega
theorem stepWays_ok (hN : 66 ≤ N) (hT : Told f (a 58) P H D kd) {W : Nat → Nat} (hB : ∀ x, x < 8192 → W x < 2 ^ 60) (ch : Bool) (hW : Wts (b 63) W) : ∃ b' W', m_X9_stepWays N (MH σ f a b) 53 (bI ch) = some (MH σ f a b') ∧ Wts (b' 63) W' ∧ ∀ v, dot 8192 W' v = dot 8192 W (stp (lgl P H D kd) (bhd H D kd) (cMv P H D kd) ch v) := by
  unfold m_X9_stepWays
  rw [MH_rv hN]
  simp only [Option.bind_some]
  obtain ⟨b1, g1, g2, g3⟩ := sw_2 (N := N) (σ := σ) (f := f) (a := a) hN (bI ch) 8192 fu 0 b (by omega) (by decide)
  rw [nI_0] at g1
  rw [g1]
  simp only [Option.bind_some]
  obtain ⟨b2, M, k1, k2, k3, k4⟩ := sw_24 (N := N) (σ := σ) hN hT hB ch 8192 fu 0 b1 (fun _ => 0) (by omega) (by decide) (by rw [g2 63 (by decide)]; exact hW) (fun x hx => by rw [g3 x hx, if_pos (Nat.zero_le _)]; rfl) (fun v => dot_zero)
  rw [nI_0] at k1
  rw [k1]
  simp only [Option.bind_some]
  obtain ⟨b3, l1, l2⟩ := sw_189 (N := N) (σ := σ) (f := f) (a := a) hN 8192 fu 0 b2 (by omega) (by decide)
  rw [nI_0] at l1
  rw [l1]
  exact ⟨b3, M, rfl, fun x hx => by rw [l2 x hx, if_pos (Nat.zero_le _)]; exact k3 x hx, k4⟩
theorem beginsWays_ok (hN : 66 ≤ N) {bd : AB} (hB : ABm (a 58) 0 bd) (hV : VB m bd) (hm : m < 2 ^ 30) : ∃ b', m_X9_beginsWays N (MH σ f a b) 53 = some (MH σ (tolF f (a 58)) a b') ∧ Wts (b' 63) (vu (fun _ => 0) (stx bd) 1) := by
  have hs := stx_lt hV
  unfold m_X9_beginsWays
  rw [MH_rv hN, asTold_ok hN]
  simp only [Option.bind_some]
  obtain ⟨b1, g1, g2, g3⟩ := bw_6 (N := N) (σ := σ) (f := tolF f (a 58)) (a := a) hN 8192 fu 0 b (by omega) (by decide)
  rw [nI_0] at g1
  rw [g1]
  simp only [Option.bind_some]
  rw [MH_r17 hN, state_ok hN hB hV hm]
  simp only [Option.bind_some]
  rw [MH_s63 hN hs]
  refine ⟨_, rfl, fun x hx => ?_⟩
  rw [vup_s]
  by_cases c : x = stx bd
  · subst c; rw [updL_s, vu_s]; rfl
  · rw [updL_n c, vu_n c, g3 x hx, if_pos (Nat.zero_le _)]; rfl
end MY
