/-! the reference: copy, feed, and what is only read -/
section Rows3
variable {N m : Nat} {f : Nat → Int32} {a : Nat → Nat → Int32} {b : Nat → Nat → Int64} {s : AS}
/-- what lies in the items' row after t steps of a copy -/
theorem copy_loop {σ : Hp} (hN : 66 ≤ N) {x y u v n : Nat} (hx : x < 8) (hy : y < 8) (hu : u + n ≤ 40) (hv : v + n ≤ 40) (up : Bool) (hup : up = true ↔ v < u) (a0 : Nat → Int32) :
    ∀ (r k j : Nat) (a : Nat → Nat → Int32), j + r = n → r < k → (∀ i, a 54 i = if (up = true ∧ 40 * y + v ≤ i ∧ i < 40 * y + v + j) ∨ (up = false ∧ 40 * y + v + (n - j) ≤ i ∧ i < 40 * y + v + n) then a0 (40 * x + u + (i - (40 * y + v))) else a0 i) →
    ∃ a', L_X9_copy_107 N 53 (nI x) (nI u) (nI y) (nI v) (nI n) (if up then 1 else 0) k (MH σ f a b) (nI j) = some (MH σ f a' b) ∧ (∀ i, i ≠ 54 → a' i = a i) ∧ ∀ i, a' 54 i = if 40 * y + v ≤ i ∧ i < 40 * y + v + n then a0 (40 * x + u + (i - (40 * y + v))) else a0 i := by
  intro r
  induction r with
  | zero =>
    intro k j a hj hk ha
    obtain ⟨k, rfl⟩ : ∃ q, k = q + 1 := ⟨k - 1, by omega⟩
    obtain rfl : j = n := by omega
    refine ⟨a, ?_, fun _ _ => rfl, fun i => ?_⟩
    · rw [L_X9_copy_107.eq_2, if_pos (nI_le (Nat.le_refl _) (by omega))]
    · rw [ha]
      cases up with
      | true => simp
      | false => simp
  | succ r ih =>
    intro k j a hj hk ha
    obtain ⟨k, rfl⟩ : ∃ q, k = q + 1 := ⟨k - 1, by omega⟩
    obtain ⟨q, hq, eq, hq2⟩ : ∃ q, q < n ∧ ((if (if up then (1 : Int32) else 0) = 0 then some ((nI n - 1) - nI j) else some (nI j)) : Option Int32) = some (nI q) ∧ q = (if up then j else n - 1 - j) := by
      cases up with
      | true => exact ⟨j, by omega, by rw [if_neg (by decide +kernel)], rfl⟩
      | false =>
        refine ⟨n - 1 - j, by omega, ?_, rfl⟩
        rw [if_pos (by decide +kernel), show (1 : Int32) = nI 1 from rfl, pk_sub (by omega), pk_sub (by omega)]
    have hval : a 54 (40 * x + u + q) = a0 (40 * x + u + q) := by
      rw [ha, if_neg]
      intro hc
      cases up with
      | true =>
        have hvu := hup.mp rfl
        simp only [if_true] at hq2
        rcases hc with ⟨_, h1, h2⟩ | ⟨h0, _⟩
        · rcases Nat.lt_trichotomy x y with g | g | g
          · omega
          · subst g; omega
          · omega
        · cases h0
      | false =>
        have hvu : ¬ v < u := fun g => by have := hup.mpr g; cases this
        simp only [Bool.false_eq_true, if_false] at hq2
        rcases hc with ⟨h0, _⟩ | ⟨_, h1, h2⟩
        · cases h0
        · rcases Nat.lt_trichotomy x y with g | g | g
          · omega
          · subst g; omega
          · omega
    obtain ⟨a', h1, h2, h3⟩ := ih k (j + 1) (va_up a 54 (upd (a 54) (40 * y + v + q) (a0 (40 * x + u + q)))) (by omega) (by omega) (fun i => by
      rw [vup_s]
      by_cases c : i = 40 * y + v + q
      · subst c
        rw [upd_s]
        cases up with
        | true => simp only [if_true] at hq2; rw [if_pos (Or.inl ⟨rfl, by omega, by omega⟩)]; congr 1; omega
        | false => simp only [Bool.false_eq_true, if_false] at hq2; rw [if_pos (Or.inr ⟨rfl, by omega, by omega⟩)]; congr 1; omega
      · rw [upd_n c, ha]
        cases up with
        | true =>
          simp only [if_true] at hq2
          simp only [true_and, Bool.true_eq_false, false_and, or_false]
          by_cases c2 : 40 * y + v ≤ i ∧ i < 40 * y + v + j
          · rw [if_pos c2, if_pos (by omega)]
          · rw [if_neg c2, if_neg (by omega)]
        | false =>
          simp only [Bool.false_eq_true, if_false] at hq2
          simp only [Bool.false_eq_true, false_and, true_and, false_or]
          by_cases c2 : 40 * y + v + (n - j) ≤ i ∧ i < 40 * y + v + n
          · rw [if_pos c2, if_pos (by omega)]
          · rw [if_neg c2, if_neg (by omega)])
    refine ⟨a', ?_, fun i hi => by rw [h2 i hi, vup_n hi], h3⟩
    rw [L_X9_copy_107.eq_2, if_neg (nI_ge (by omega) (by omega)), eq]
    simp only [MH_rv hN, MH_f3 hN, MH_f4 hN, MH_f6 hN, MH_f7 hN, MH_f8 hN, MH_f9 hN, MH_f11 hN, MH_f16 hN, MH_f19 hN, MH_f20 hN, MH_f21 hN, MH_f23 hN, MH_r0 hN, MH_r1 hN, MH_r2 hN, MH_r5 hN, MH_r10 hN, MH_r12 hN, MH_r13 hN, MH_r14 hN, MH_r15 hN, MH_r17 hN, MH_r18 hN, MH_r22 hN, Option.bind_some]
    rw [show (40 : Int32) = nI 40 from rfl, pk_mul, pk_mul, nI_add, nI_add, nI_add, nI_add, MH_a54 hN (by omega)]
    simp only [Option.bind_some]
    rw [MH_s54 hN (by omega), hval]
    simp only [Option.bind_some]
    rw [nI_1]
    exact h1
theorem mo_copy (hN : 66 ≤ N) (h : RM f a s) (hv : VA m s) (x i y j n : Int32) : MOp N f a b (fun σ => m_X9_copy N σ 53 x i y j n) (o_copy s x i y j n).1 (o_copy s x i y j n).2 := by
  intro σ
  show ∃ f' a' b', m_X9_copy N (MH σ f a b) 53 x i y j n = _ ∧ _
  unfold m_X9_copy o_copy
  rw [MH_rv hN, isRow_ok, isRow_ok]
  simp only [Option.bind_some, ite10]
  by_cases c1 : 0 ≤ x ∧ x ≤ 7
  · by_cases c1' : 0 ≤ y ∧ y ≤ 7
    · have c0 : (0 ≤ x ∧ x ≤ 7) ∧ 0 ≤ y ∧ y ≤ 7 := ⟨c1, c1'⟩
      rw [if_pos c1, if_pos c1', if_pos c0]
      obtain ⟨p, hp, rfl⟩ := i7 c1
      obtain ⟨q, hq, rfl⟩ := i7 c1'
      obtain ⟨r1, r2, r3⟩ := h.1 p hp
      obtain ⟨v1, v2⟩ := hv.1 p hp
      obtain ⟨s1, s2, s3⟩ := h.1 q hq
      obtain ⟨w1, w2⟩ := hv.1 q hq
      simp only [MH_rv hN, MH_f3 hN, MH_f4 hN, MH_f6 hN, MH_f7 hN, MH_f8 hN, MH_f9 hN, MH_f11 hN, MH_f16 hN, MH_f19 hN, MH_f20 hN, MH_f21 hN, MH_f23 hN, MH_r0 hN, MH_r1 hN, MH_r2 hN, MH_r5 hN, MH_r10 hN, MH_r12 hN, MH_r13 hN, MH_r14 hN, MH_r15 hN, MH_r17 hN, MH_r18 hN, MH_r22 hN, Option.bind_some]
      rw [MH_a55 hN hp, MH_a55 hN hq, nt_nI (by omega), nt_nI (by omega)]
      simp only [Option.bind_some]
      rw [r1, s1]
      by_cases c2 : s.lane p = -1
      · rw [if_pos ((lane_ng v1).mpr c2), if_pos (show s.lane p = -1 ∨ s.lane q = -1 from Or.inl c2), finds_ok hN]
        exact ⟨_, a, b, rfl, h.fnd 1⟩
      rw [if_neg (by rw [lane_ng v1]; exact c2)]
      by_cases c3 : s.lane q = -1
      · rw [if_neg (by rw [lane_nn w1]; exact fun g => g c3), if_pos (show s.lane p = -1 ∨ s.lane q = -1 from Or.inr c3), finds_ok hN]
        exact ⟨_, a, b, rfl, h.fnd 1⟩
      rw [if_pos ((lane_nn w1).mpr c3), if_neg (show ¬ (s.lane p = -1 ∨ s.lane q = -1) from fun g => g.elim c2 c3)]
      by_cases c4 : s.lane p = s.lane q
      · rw [if_pos c4, if_pos c4, isWithin_ok hN h hv hp c2, isWithin_ok hN h hv hq c3]
        simp only [Option.bind_some, ite10]
        cases c5 : wthB s p i n with
        | false =>
          simp only [Bool.false_and, Bool.false_eq_true, if_false]
          rw [finds_ok hN]
          exact ⟨_, a, b, rfl, h.fnd 2⟩
        | true =>
          simp only [Bool.true_and, eq_self, if_true]
          cases c6 : wthB s q j n with
          | false =>
            simp only [Bool.false_eq_true, if_false]
            rw [finds_ok hN]
            exact ⟨_, a, b, rfl, h.fnd 2⟩
          | true =>
            simp only [eq_self, if_true]
            obtain ⟨u, n1, rfl, rfl, g1, g2, g3⟩ := wth_le c5 v2
            obtain ⟨w, n2, rfl, e2, g4, g5, g6⟩ := wth_le c6 w2
            obtain rfl : n1 = n2 := (nI_eq (by omega) (by omega)).mp e2
            have eup : ((if nI u ≤ nI w then some (0 : Int32) else some 1) : Option Int32) = some (if decide (w < u) = true then 1 else 0) := by
              by_cases g : w < u
              · rw [if_neg (nI_ge g (by omega)), decide_eq_true g]; rfl
              · rw [if_pos (nI_le (by omega) (by omega)), decide_eq_false g]; rfl
            rw [eup]
            simp only [Option.bind_some]
            obtain ⟨a', h1, h2, h3⟩ := copy_loop (σ := σ) (f := f) (b := b) hN hp hq (u := u) (v := w) (n := n1) (by omega) (by omega) (decide (w < u)) (by simp) (a 54) n1 fu 0 a (by omega) (Nat.lt_of_le_of_lt g3 (by decide)) (fun i => by
              rw [if_neg]
              rintro (⟨_, g7, g8⟩ | ⟨_, g7, g8⟩) <;> omega)
            rw [nI_0] at h1
            rw [h1]
            simp only [Option.bind_some]
            rw [good_ok hN, nt_nI (by omega), nt_nI (by omega), nt_nI (by omega)]
            refine ⟨_, a', b, rfl, h.rws (fun i g1 g2 g3 => h2 i g1) (fun k hk => ?_)⟩
            obtain ⟨q1, q2, q3⟩ := h.1 k hk
            refine ⟨by rw [h2 55 (by decide)]; exact q1, fun hl => by rw [h2 56 (by decide)]; exact q2 hl, fun t ht => ?_⟩
            rw [h3]
            by_cases e : k = q
            · subst e
              rw [vup_s]
              by_cases c7 : w ≤ t ∧ t < w + n1
              · rw [if_pos (by omega), if_pos c7, show 40 * p + u + (40 * k + t - (40 * k + w)) = 40 * p + (u + (t - w)) by omega]
                exact r3 _ (by omega)
              · rw [if_neg (by omega), if_neg c7]
                exact q3 t ht
            · rw [vup_n e, if_neg (by omega)]
              exact q3 t ht
      · rw [if_neg c4, if_neg c4, finds_ok hN]
        exact ⟨_, a, b, rfl, h.fnd 5⟩
    · rw [if_pos c1, if_neg c1', if_neg (show ¬ ((0 ≤ x ∧ x ≤ 7) ∧ 0 ≤ y ∧ y ≤ 7) from fun g => c1' g.2)]; exact ⟨f, a, b, rfl, h⟩
  · rw [if_neg c1, if_neg (show ¬ ((0 ≤ x ∧ x ≤ 7) ∧ 0 ≤ y ∧ y ≤ 7) from fun g => c1 g.1)]; exact ⟨f, a, b, rfl, h⟩
end Rows3
