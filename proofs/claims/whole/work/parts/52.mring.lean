/-! the reference: ring -/
/-- one of the moves from 16 - r on leads to s0 -/
def hitR (mv : Nat → Nat → Bool) (nx : Nat → Nat → Nat) (x s0 : Nat) : Nat → Bool
  | 0 => false
  | r + 1 => (mv x (15 - r) && (nx x (15 - r) == s0)) || hitR mv nx x s0 r
theorem hitR_iff {mv : Nat → Nat → Bool} {nx : Nat → Nat → Nat} {x s0 : Nat} : ∀ r, r ≤ 16 → (hitR mv nx x s0 r = true ↔ ∃ k, 16 - r ≤ k ∧ k < 16 ∧ mv x k = true ∧ nx x k = s0) := by
  intro r
  induction r with
  | zero => intro _; exact ⟨fun h => absurd h (by simp [hitR]), fun ⟨k, h1, h2, _⟩ => absurd h1 (by omega)⟩
  | succ r ih =>
    intro hr
    rw [hitR, Bool.or_eq_true, Bool.and_eq_true, beq_iff_eq, ih (by omega)]
    constructor
    · rintro (⟨h1, h2⟩ | ⟨k, h1, h2, h3⟩)
      · exact ⟨15 - r, by omega, by omega, h1, h2⟩
      · exact ⟨k, by omega, h2, h3⟩
    · rintro ⟨k, h1, h2, h3⟩
      by_cases c : k = 15 - r
      · subst c; exact Or.inl h3
      · exact Or.inr ⟨k, by omega, h2, h3⟩
theorem bef_iff {mv : Nat → Nat → Bool} {nx : Nat → Nat → Nat} {T : Nat → Bool} {x : Nat} : bef mv nx T x = true ↔ ∃ k, k < 16 ∧ mv x k = true ∧ T (nx x k) = true := by
  unfold bef
  rw [List.any_eq_true]
  constructor
  · rintro ⟨k, h1, h2⟩
    rw [Bool.and_eq_true] at h2
    exact ⟨k, List.mem_range.mp h1, h2.1, h2.2⟩
  · rintro ⟨k, h1, h2, h3⟩
    exact ⟨k, List.mem_range.mpr h1, by rw [h2, h3]; rfl⟩
theorem hit_bef {mv : Nat → Nat → Bool} {nx : Nat → Nat → Nat} {x s0 : Nat} : hitR mv nx x s0 16 = bef mv nx (fun y => y == s0) x := by
  apply Bool.eq_iff_iff.mpr
  rw [hitR_iff 16 (Nat.le_refl _), bef_iff]
  constructor
  · rintro ⟨k, _, h2, h3, h4⟩; exact ⟨k, h2, h3, beq_iff_eq.mpr h4⟩
  · rintro ⟨k, h2, h3, h4⟩; exact ⟨k, Nat.zero_le _, h2, h3, beq_iff_eq.mp h4⟩
theorem n9_ge {v : Nat} (h : v ≤ 9000) : (0 : Int32) ≤ n9 v ↔ v ≠ 9000 := by
  unfold n9
  by_cases c : v = 9000
  · rw [if_pos c]; exact ⟨fun e => absurd e (by decide +kernel), fun e => absurd c e⟩
  · rw [if_neg c]; exact ⟨fun _ => c, fun _ => nI_ge0 (by omega)⟩
section MRg
variable {N m : Nat} {f : Nat → Int32} {a : Nat → Nat → Int32} {b : Nat → Nat → Int64} {s : AS} {σ : Hp} {S : BS} {P H D : Nat} {kd : Nat → Nat} {s0 : Nat}
theorem ring_61 (hN : 66 ≤ N) (hI : BI (lgl P H D kd) (bhd H D kd) (VX P D) s0 S S.n 0) (hH : HB f a S) (hT : Told f (a 58) P H D kd) (hs0 : s0 < 8192) {i : Nat} (hi : i < S.n) (v3 : Int32) : ∀ (r t v : Nat), r ≤ 16 → r < t → v ≤ 9000 → L_X9_ring_61 N (MH σ f a b) 53 (nI s0) v3 (nI (S.q i)) (nI (mms P H D kd (S.q i))) t (n9 v) (nI (16 - r)) = some (n9 (if hitR (lgl P H D kd) (bhd H D kd) (S.q i) s0 r = true ∧ S.dq i + 1 < v then S.dq i + 1 else v)) := by
  have hn := hI.n_le
  have hm := mms_lt P H D kd (S.q i)
  have q2 := (hI.2.1 i hi).2.1
  have hd := hI.dq_le i i (Nat.le_refl _) hi
  intro r
  induction r with
  | zero =>
    intro t v _ ht hv
    obtain ⟨t, rfl⟩ : ∃ k, t = k + 1 := ⟨t - 1, by omega⟩
    have hf : ¬ (hitR (lgl P H D kd) (bhd H D kd) (S.q i) s0 0 = true ∧ S.dq i + 1 < v) := fun e => absurd e.1 (by simp [hitR])
    rw [L_X9_ring_61.eq_2, if_pos (show (16 : Int32) ≤ nI (16 - 0) by decide +kernel), if_neg hf]
  | succ r ih =>
    intro t v hr ht hv
    obtain ⟨t, rfl⟩ : ∃ k, t = k + 1 := ⟨t - 1, by omega⟩
    have e15 : 16 - (r + 1) = 15 - r := by omega
    rw [L_X9_ring_61.eq_2, e15, if_neg (show ¬ (16 : Int32) ≤ nI (15 - r) by rw [show (16 : Int32) = nI 16 from rfl, nI_leI (by omega) (by omega)]; omega), has_ok (by omega) (by omega)]
    simp only [Option.bind_some]
    rw [nI_1, show 15 - r + 1 = 16 - r by omega]
    have skip : (lgl P H D kd (S.q i) (15 - r) && (bhd H D kd (S.q i) (15 - r) == s0)) = false → (if hitR (lgl P H D kd) (bhd H D kd) (S.q i) s0 (r + 1) = true ∧ S.dq i + 1 < v then S.dq i + 1 else v) = (if hitR (lgl P H D kd) (bhd H D kd) (S.q i) s0 r = true ∧ S.dq i + 1 < v then S.dq i + 1 else v) := fun e => by rw [hitR, e, Bool.false_or]
    cases e : (mms P H D kd (S.q i)).testBit (15 - r) with
    | false =>
      have hl : lgl P H D kd (S.q i) (15 - r) = false := e
      simp only [Bool.false_eq_true, if_false, if_true]
      rw [skip (by rw [hl]; rfl)]
      exact ih t v (by omega) (by omega) hv
    | true =>
      have hl : lgl P H D kd (S.q i) (15 - r) = true := e
      have hy := bhd_lt q2 hl
      simp only [if_true]
      rw [if_neg (show ¬ (1 : Int32) = 0 by decide +kernel), behind_ok hN hT q2 hl]
      simp only [Option.bind_some]
      by_cases c : bhd H D kd (S.q i) (15 - r) = s0
      · rw [if_pos (show nI (bhd H D kd (S.q i) (15 - r)) = nI s0 by rw [c]), MH_r13 hN]
        simp only [Option.bind_some]
        rw [MH_a60 hN q2, HB.far hI hH hi]
        simp only [Option.bind_some]
        rw [nI_1]
        have hh : hitR (lgl P H D kd) (bhd H D kd) (S.q i) s0 (r + 1) = true := by rw [hitR, hl, beq_iff_eq.mpr c]; rfl
        -- the least from here on
        have fin : ∀ v', v' ≤ 9000 → v' = (if S.dq i + 1 < v then S.dq i + 1 else v) → L_X9_ring_61 N (MH σ f a b) 53 (nI s0) v3 (nI (S.q i)) (nI (mms P H D kd (S.q i))) t (n9 v') (nI (16 - r)) = some (n9 (if hitR (lgl P H D kd) (bhd H D kd) (S.q i) s0 (r + 1) = true ∧ S.dq i + 1 < v then S.dq i + 1 else v)) := fun v' hv' he => by
          rw [ih t v' (by omega) (by omega) hv']
          congr 2
          by_cases c2 : S.dq i + 1 < v
          · have p1 : hitR (lgl P H D kd) (bhd H D kd) (S.q i) s0 (r + 1) = true ∧ S.dq i + 1 < v := ⟨hh, c2⟩
            rw [if_pos c2] at he
            have p2 : ¬ (hitR (lgl P H D kd) (bhd H D kd) (S.q i) s0 r = true ∧ S.dq i + 1 < v') := fun e => by omega
            rw [if_pos p1, if_neg p2, he]
          · have p1 : ¬ (hitR (lgl P H D kd) (bhd H D kd) (S.q i) s0 (r + 1) = true ∧ S.dq i + 1 < v) := fun e => c2 e.2
            rw [if_neg c2] at he
            have p2 : ¬ (hitR (lgl P H D kd) (bhd H D kd) (S.q i) s0 r = true ∧ S.dq i + 1 < v') := fun e => by omega
            rw [if_neg p1, if_neg p2, he]
        by_cases c9 : v = 9000
        · have hne : ¬ (0 : Int32) ≤ n9 v := fun e => (n9_ge hv).mp e c9
          rw [if_neg hne]
          have := fin (S.dq i + 1) (by omega) (by rw [if_pos (by omega)])
          rw [show n9 (S.dq i + 1) = nI (S.dq i + 1) by unfold n9; rw [if_neg (by omega)]] at this
          exact this
        · have hge : (0 : Int32) ≤ n9 v := (n9_ge hv).mpr c9
          rw [if_pos hge]
          have hv9 : n9 v = nI v := by unfold n9; rw [if_neg c9]
          rw [hv9]
          by_cases c2 : S.dq i + 1 < v
          · have hs : m_X9_smaller (nI v) (nI (S.dq i + 1)) = some (nI (S.dq i + 1)) := by
              unfold m_X9_smaller
              rw [if_pos (show nI (S.dq i + 1) ≤ nI v by rw [nI_leI (by omega) (by omega)]; omega)]
            rw [hs]
            simp only [Option.bind_some]
            have := fin (S.dq i + 1) (by omega) (by rw [if_pos c2])
            rw [show n9 (S.dq i + 1) = nI (S.dq i + 1) by unfold n9; rw [if_neg (by omega)]] at this
            exact this
          · rw [smaller_l (by omega) (by omega) (by omega)]
            simp only [Option.bind_some]
            have := fin v hv (by rw [if_neg c2])
            rw [hv9] at this
            exact this
      · rw [if_neg (show ¬ nI (bhd H D kd (S.q i) (15 - r)) = nI s0 from fun e => c ((nI_eq (by omega) (by omega)).mp e)), skip (by rw [beq_eq_false_iff_ne.mpr c, Bool.and_false])]
        exact ih t v (by omega) (by omega) hv
theorem ring_34 (hN : 66 ≤ N) (hI : BI (lgl P H D kd) (bhd H D kd) (VX P D) s0 S S.n 0) (hH : HB f a S) (hT : Told f (a 58) P H D kd) (hs0 : s0 < 8192) {F : Nat} (hF : F ≤ 9000) : ∀ (r t i : Nat), i + r = S.n → r < t → L_X9_ring_34 N (MH σ f a b) 53 (nI s0) t (n9 (rgR (lgl P H D kd) (bhd H D kd) S s0 F i)) (nI i) = some (n9 (rgR (lgl P H D kd) (bhd H D kd) S s0 F S.n)) := by
  have hn := hI.n_le
  intro r
  induction r with
  | zero =>
    intro t i hi ht
    obtain ⟨t, rfl⟩ : ∃ k, t = k + 1 := ⟨t - 1, by omega⟩
    obtain rfl : i = S.n := by omega
    rw [L_X9_ring_34.eq_2, MH_f16 hN, hH.1]
    simp only [Option.bind_some]
    rw [if_pos (nI_le (Nat.le_refl _) (by omega))]
  | succ r ih =>
    intro t i hi ht
    obtain ⟨t, rfl⟩ : ∃ k, t = k + 1 := ⟨t - 1, by omega⟩
    have hi' : i < S.n := by omega
    have q2 := (hI.2.1 i hi').2.1
    have h61 := ring_61 (N := N) (σ := σ) (b := b) hN hI hH hT hs0 hi' (nI i) 16 fu (rgR (lgl P H D kd) (bhd H D kd) S s0 F i) (Nat.le_refl _) (by decide) (rgR_le _ _ _ _ _ _ hF)
    rw [hit_bef, show 16 - 16 = 0 from rfl, nI_0] at h61
    rw [L_X9_ring_34.eq_2, MH_f16 hN, hH.1]
    simp only [Option.bind_some]
    rw [if_neg (nI_ge (by omega) (by omega)), MH_r14 hN]
    simp only [Option.bind_some]
    rw [MH_a61 hN (by omega), hH.2.1 i hi']
    simp only [Option.bind_some]
    rw [movesOf_ok hN hT q2]
    simp only [Option.bind_some]
    rw [h61]
    simp only [Option.bind_some]
    rw [nI_1]
    exact ih t (i + 1) (by omega) (by omega)
theorem xor4096 : ∀ {x : Nat}, x < 8192 → x ^^^ 4096 = if x < 4096 then x + 4096 else x - 4096 := by
  intro x hx
  apply Nat.eq_of_testBit_eq
  intro i
  rw [Nat.testBit_xor, show (4096 : Nat) = 2 ^ 12 from rfl, Nat.testBit_two_pow]
  by_cases c : x < 2 ^ 12
  · rw [if_pos c]
    by_cases hi : 12 = i
    · subst hi
      rw [Nat.testBit_lt_two_pow c, Nat.add_comm, Nat.testBit_two_pow_add_eq, Nat.testBit_lt_two_pow c]; rfl
    · rw [decide_eq_false hi, Bool.xor_false, Nat.add_comm]
      by_cases h12 : i < 12
      · rw [Nat.testBit_two_pow_add_gt h12]
      · rw [Nat.testBit_lt_two_pow (Nat.lt_of_lt_of_le c (Nat.pow_le_pow_right (by omega) (by omega))), Nat.testBit_lt_two_pow]
        exact Nat.lt_of_lt_of_le (show 2 ^ 12 + x < 2 ^ 13 by omega) (Nat.pow_le_pow_right (by omega) (by omega))
  · rw [if_neg c]
    obtain ⟨y, rfl⟩ : ∃ y, x = 2 ^ 12 + y := ⟨x - 2 ^ 12, by omega⟩
    have hy : y < 2 ^ 12 := by omega
    rw [Nat.add_sub_cancel_left]
    by_cases hi : 12 = i
    · subst hi
      rw [Nat.testBit_two_pow_add_eq, Nat.testBit_lt_two_pow hy]; rfl
    · rw [decide_eq_false hi, Bool.xor_false]
      by_cases h12 : i < 12
      · rw [Nat.testBit_two_pow_add_gt h12]
      · rw [Nat.testBit_lt_two_pow (Nat.lt_of_lt_of_le hy (Nat.pow_le_pow_right (by omega) (by omega))), Nat.testBit_lt_two_pow]
        exact Nat.lt_of_lt_of_le (show 2 ^ 12 + y < 2 ^ 13 by omega) (Nat.pow_le_pow_right (by omega) (by omega))
/-- the least ring, as it is found -/
theorem ring_min {mv : Nat → Nat → Bool} {nx : Nat → Nat → Nat} {V : Nat → Prop} (hI : BI mv nx V s0 S S.n 0) (hs0 : s0 < 8192) {F : Nat} (hF : F = match S.ix (s0 ^^^ 4096) with
    | none => 9000
    | some j => S.dq j) : rgR mv nx S s0 F S.n = if lsN mv nx (bef mv nx (arT (s0 % 4096))) s0 = 8192 then 9000 else lsN mv nx (bef mv nx (arT (s0 % 4096))) s0 + 1 := by
  have hn := hI.n_le
  have hx := xor4096 hs0
  have hxl : s0 ^^^ 4096 < 8192 := by rw [hx]; split <;> omega
  have hT : ∀ y, y < 8192 → (arT (s0 % 4096) y = true ↔ y = s0 ∨ y = s0 ^^^ 4096) := fun y hy => by
    unfold arT
    rw [beq_iff_eq, hx]
    split <;> omega
  have hnx : ∀ j k, j < S.n → k < 16 → mv (S.q j) k = true → nx (S.q j) k < 8192 := fun j k hj hk hm => by
    obtain ⟨jy, _, y2, y3, _⟩ := hI.succ hj hk hm
    rw [← y3]; exact (hI.2.1 jy y2).2.1
  obtain ⟨r1, r2, r3⟩ := rgR_spec mv nx S s0 F S.n
  have hFj : ∀ jo, S.ix (s0 ^^^ 4096) = some jo → F = S.dq jo ∧ jo < S.n ∧ S.q jo = s0 ^^^ 4096 := fun jo e => by
    rw [e] at hF
    exact ⟨hF, hI.2.2.1 _ _ e⟩
  -- the parent of the start's other state
  have hpar : ∀ jo, jo < S.n → S.q jo = s0 ^^^ 4096 → 0 < jo ∧ bef mv nx (arT (s0 % 4096)) (S.q (S.pq jo)) = true ∧ S.dq jo = S.dq (S.pq jo) + 1 ∧ S.pq jo < S.n := fun jo h1 h2 => by
    have h0 : 0 < jo := by
      by_cases c : jo = 0
      · subst c
        rw [hI.1.2.1, hx] at h2
        split at h2 <;> omega
      · omega
    obtain ⟨g1, g2, g3, g4, g5, _⟩ := hI.2.2.2.1 jo h0 h1
    refine ⟨h0, bef_iff.mpr ⟨_, g2, g3, ?_⟩, g5, by omega⟩
    rw [g4, h2]
    exact (hT _ hxl).mpr (Or.inr rfl)
  have hbb : ∀ j, j < S.n → bef mv nx (fun y => y == s0) (S.q j) = true → bef mv nx (arT (s0 % 4096)) (S.q j) = true := fun j hj hb => by
    obtain ⟨k, k1, k2, k3⟩ := bef_iff.mp hb
    exact bef_iff.mpr ⟨k, k1, k2, (hT _ (hnx j k hj k1 k2)).mpr (Or.inl (beq_iff_eq.mp k3))⟩
  rcases hI.pick (fun j => bef mv nx (arT (s0 % 4096)) (S.q j)) with ⟨j, j1, j2, j3⟩ | hno
  · have hL : lsN mv nx (bef mv nx (arT (s0 % 4096))) s0 = S.dq j := hI.least j1 j2 (fun j' a1 a2 => (j3 j' a1 a2).2)
    have hd := hI.dq_le j j (Nat.le_refl _) j1
    rw [hL, if_neg (show ¬ S.dq j = 8192 by omega)]
    obtain ⟨k, k1, k2, k3⟩ := bef_iff.mp j2
    -- not more
    have hup : rgR mv nx S s0 F S.n ≤ S.dq j + 1 := by
      rcases (hT _ (hnx j k j1 k1 k2)).mp k3 with e | e
      · exact r2 j j1 (bef_iff.mpr ⟨k, k1, k2, beq_iff_eq.mpr e⟩)
      · obtain ⟨jy, y1, y2, y3, y4, _⟩ := hI.succ j1 k1 k2
        rw [e] at y1
        have := (hFj jy y1).1
        omega
    -- not less
    have hlo : S.dq j + 1 ≤ rgR mv nx S s0 F S.n := by
      rcases r3 with e | ⟨i, i1, i2, i3⟩
      · rw [e]
        cases ei : S.ix (s0 ^^^ 4096) with
        | none => rw [ei] at hF; rw [hF]; show _ ≤ 9000; omega
        | some jo =>
          obtain ⟨f1, f2, f3⟩ := hFj jo ei
          obtain ⟨p1, p2, p3, p4⟩ := hpar jo f2 f3
          have := (j3 _ p4 p2).2
          omega
      · have := (j3 i i1 (hbb i i1 i2)).2
        omega
    omega
  · rw [hI.none hno, if_pos rfl]
    rcases r3 with e | ⟨i, i1, i2, i3⟩
    · rw [e]
      cases ei : S.ix (s0 ^^^ 4096) with
      | none => rw [ei] at hF; exact hF
      | some jo =>
        obtain ⟨f1, f2, f3⟩ := hFj jo ei
        obtain ⟨p1, p2, p3, p4⟩ := hpar jo f2 f3
        have := hno _ p4
        rw [p2] at this
        exact absurd this (by decide)
    · have := hno i i1
      rw [hbb i i1 i2] at this
      exact absurd this (by decide)
theorem mo_ring (hN : 66 ≤ N) (h : RM f a s) (hv : VA m s) (hm : m < 2 ^ 30) : MOp N f a b (fun σ => m_X9_ring N σ 53) (o_ring s) s := by
  intro σ
  show ∃ f' a' b', m_X9_ring N (MH σ f a b) 53 = _ ∧ _
  have hV := hv.2.2.1
  have hs := stx_lt hV
  unfold m_X9_ring o_ring
  rw [MH_rv hN, isBoard_ok hN h hv]
  simp only [Option.bind_some, ite01]
  by_cases c1 : s.bd.P = 0
  · rw [if_pos c1, if_pos c1]; exact ⟨f, a, b, rfl, h⟩
  rw [if_neg c1, if_neg c1]
  obtain ⟨f1, a1, S, g1, g2, g3, g4, g5⟩ := spreads_ok (N := N) (f := f) (b := b) (σ := σ) hN h.2.2.2.2.1 hV (nb_ne c1) hm
  have hR := h.frs g2
  have hn := g3.n_le
  rw [g1]
  simp only [Option.bind_some]
  rw [MH_r14 hN, MH_r13 hN]
  simp only [Option.bind_some]
  rw [show (0 : Int32) = nI 0 from rfl, MH_a61 hN (by omega), g4.2.1 0 g3.1.1, g3.1.2.1]
  simp only [Option.bind_some]
  have hx := xor4096 hs
  have hxl : stx s.bd ^^^ 4096 < 8192 := by rw [hx]; split <;> omega
  rw [show nI (stx s.bd) ^^^ 4096 = nI (stx s.bd ^^^ 4096) from ni_xor _ 4096, MH_a60 hN hxl]
  simp only [Option.bind_some]
  obtain ⟨F, hF⟩ : ∃ F, F = match S.ix (stx s.bd ^^^ 4096) with
    | none => 9000
    | some j => S.dq j := ⟨_, rfl⟩
  have hF9 : F ≤ 9000 := by
    rw [hF]
    split
    · exact Nat.le_refl _
    · next j e => have := g3.dq_le j j (Nat.le_refl _) (g3.2.2.1 _ _ e).1; have := (g3.2.2.1 _ _ e).1; omega
  have hv9 : a1 60 (stx s.bd ^^^ 4096) = n9 F := by
    rw [g4.2.2 _ hxl, hF]
    cases e : S.ix (stx s.bd ^^^ 4096) with
    | none => rfl
    | some j =>
      have := g3.dq_le j j (Nat.le_refl _) (g3.2.2.1 _ _ e).1; have := (g3.2.2.1 _ _ e).1
      unfold n9; rw [if_neg (show ¬ S.dq j = 9000 by omega)]
  rw [hv9]
  have h34 := ring_34 (N := N) (σ := σ) (b := b) hN g3 g4 g5 hs hF9 S.n fu 0 (by omega) (by show _ < 20000; omega)
  rw [show rgR (lgl s.bd.P s.bd.H s.bd.D s.bd.kd) (bhd s.bd.H s.bd.D s.bd.kd) S (stx s.bd) F 0 = F from rfl] at h34
  rw [h34, ring_min g3 hs hF]
  simp only [Option.bind_some]
  have hle : rgN s.bd ≤ 8192 := by have := (frst_spec (p := fun r => cw (lgl s.bd.P s.bd.H s.bd.D s.bd.kd) (bhd s.bd.H s.bd.D s.bd.kd) (bef (lgl s.bd.P s.bd.H s.bd.D s.bd.kd) (bhd s.bd.H s.bd.D s.bd.kd) (arT (stx s.bd % 4096))) r (stx s.bd)) 8192 0).2.1; rw [Nat.zero_add] at this; exact this
  show ∃ f' a' b', (if nI 0 ≤ n9 (if rgN s.bd = 8192 then 9000 else rgN s.bd + 1) then some (n9 (if rgN s.bd = 8192 then 9000 else rgN s.bd + 1), MH σ f1 a1 b) else some (-1000000, MH σ f1 a1 b)) = _ ∧ _
  by_cases c2 : rgN s.bd = 8192
  · rw [if_pos c2, if_pos c2, if_neg (show ¬ nI 0 ≤ n9 9000 by decide +kernel)]
    exact ⟨f1, a1, b, rfl, hR⟩
  · rw [if_neg c2, if_neg c2, if_pos (show nI 0 ≤ n9 (rgN s.bd + 1) from (n9_ge (by omega)).mpr (by omega))]
    have : n9 (rgN s.bd + 1) = nI (rgN s.bd + 1) := by unfold n9; rw [if_neg (show ¬ rgN s.bd + 1 = 9000 by omega)]
    rw [this]
    exact ⟨f1, a1, b, rfl, hR⟩
end MRg
