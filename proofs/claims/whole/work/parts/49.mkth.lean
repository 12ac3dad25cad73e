/-! the reference: the k-th of the fewest moves -/
/-- whether the fewest moves to where T holds go by the j-th -/
def gdB (mv : Nat → Nat → Bool) (nx : Nat → Nat → Nat) (T : Nat → Bool) (n : Nat) (S : BS) (j : Nat) : Bool := decide (S.dq j ≤ n) && cw mv nx T (n - S.dq j) (S.q j)
/-- all but the good ones is as it was -/
def Fr62 (a a' : Nat → Nat → Int32) : Prop := ∀ i, i ≠ 62 → a' i = a i
theorem HB.fr62 {f : Nat → Int32} {a a' : Nat → Nat → Int32} {S : BS} (h : HB f a S) (ha : Fr62 a a') : HB f a' S := by
  unfold HB
  rw [ha 61 (by decide), ha 60 (by decide)]
  exact h
theorem Told.fr62 {f : Nat → Int32} {a a' : Nat → Nat → Int32} {P H D : Nat} {kd : Nat → Nat} (h : Told f (a 58) P H D kd) (ha : Fr62 a a') : Told f (a' 58) P H D kd := by
  rw [ha 58 (by decide)]; exact h
theorem RM.fr62 {f : Nat → Int32} {a a' : Nat → Nat → Int32} {s : AS} (h : RM f a s) (ha : Fr62 a a') : RM f a' s := by
  unfold RM
  rw [ha 54 (by decide), ha 55 (by decide), ha 56 (by decide), ha 57 (by decide), ha 58 (by decide), ha 59 (by decide), ha 65 (by decide)]
  exact h
/-- a bool as an int -/
def bI (c : Bool) : Int32 := if c then 1 else 0
theorem bI_0 {c : Bool} : bI c = 0 ↔ c = false := by cases c <;> simp [bI]
theorem nar_b (c : Bool) : nar 3 (bI c) = bI c := by cases c <;> decide +kernel
section MK
variable {N m : Nat} {f : Nat → Int32} {a : Nat → Nat → Int32} {b : Nat → Nat → Int64} {s : AS} {σ : Hp} {P H D : Nat} {kd : Nat → Nat} {s0 : Nat} {S : BS} {T : Nat → Bool} {n : Nat}
theorem HB.far (hI : BI (lgl P H D kd) (bhd H D kd) (VX P D) s0 S S.n 0) (hH : HB f a S) {j : Nat} (hj : j < S.n) : a 60 (S.q j) = nI (S.dq j) := by
  obtain ⟨q1, q2, _⟩ := hI.2.1 j hj
  rw [hH.2.2 _ q2, q1]
/-- a round of the inner loop: i is the one that is looked at -/
theorem kth_81 (hN : 66 ≤ N) (hI : BI (lgl P H D kd) (bhd H D kd) (VX P D) s0 S S.n 0) {i : Nat} (hi : i < S.n) {G : Nat → Bool} {v1 v2 v3 v4 : Int32} {set : Nat} (hset : set < 65536) (hsub : ∀ k, set.testBit k = true → lgl P H D kd (S.q i) k = true) : ∀ (r t k : Nat) (c : Bool) (a : Nat → Nat → Int32), k + r = 16 → r < t → HB f a S → Told f (a 58) P H D kd → (∀ j, i < j → j < S.n → a 62 (S.q j) = bI (G j)) → a 62 (S.q i) = bI c → ∃ a' c', L_X9_kth_81 N 53 v1 v2 v3 v4 (nI (S.q i)) (nI set) t (MH σ f a b) (nI k) = some (MH σ f a' b) ∧ Fr62 a a' ∧ (∀ j, i < j → j < S.n → a' 62 (S.q j) = bI (G j)) ∧ a' 62 (S.q i) = bI c' ∧ (c' = true ↔ c = true ∨ ∃ u j, k ≤ u ∧ u < 16 ∧ set.testBit u = true ∧ i < j ∧ j < S.n ∧ S.q j = bhd H D kd (S.q i) u ∧ S.dq j = S.dq i + 1 ∧ G j = true) := by
  obtain ⟨q1, q2, q3⟩ := hI.2.1 i hi
  have hn := hI.n_le
  have hdq : ∀ j, j < S.n → S.dq j < 8192 := fun j hj => by have := hI.dq_le j j (Nat.le_refl _) hj; omega
  intro r
  induction r with
  | zero =>
    intro t k c a hk ht hH hT hG hc
    obtain ⟨t, rfl⟩ : ∃ k, t = k + 1 := ⟨t - 1, by omega⟩
    obtain rfl : k = 16 := by omega
    refine ⟨a, c, by rw [L_X9_kth_81.eq_2, if_pos (by decide +kernel)], fun _ _ => rfl, hG, hc, ⟨Or.inl, ?_⟩⟩
    rintro (h | ⟨u, j, h1, h2, _⟩)
    · exact h
    · omega
  | succ r ih =>
    intro t k c a hk ht hH hT hG hc
    obtain ⟨t, rfl⟩ : ∃ k, t = k + 1 := ⟨t - 1, by omega⟩
    -- what this round finds
    have hval : ∃ c1 : Bool, ((if bI c = 0 then (m_X9_has (nI set) (nI k)).bind fun r22 => if r22 = 0 then some 0 else (gR N (MH σ f a b) 53 9 13).bind fun x24 => (m_X9_behind N (MH σ f a b) 53 (nI (S.q i)) (nI k)).bind fun r25 => (aI 0 N (MH σ f a b) x24 r25).bind fun x26 => (gR N (MH σ f a b) 53 9 13).bind fun x27 => (aI 0 N (MH σ f a b) x27 (nI (S.q i))).bind fun x28 => if x26 = (x28 + 1) then (gR N (MH σ f a b) 53 9 15).bind fun x30 => (m_X9_behind N (MH σ f a b) 53 (nI (S.q i)) (nI k)).bind fun r31 => (aI 3 N (MH σ f a b) x30 r31).bind fun x32 => if x32 = 0 then some 0 else some 1 else some 0 else some 1) : Option Int32) = some (bI c1) ∧ (c1 = true ↔ c = true ∨ ∃ j, set.testBit k = true ∧ i < j ∧ j < S.n ∧ S.q j = bhd H D kd (S.q i) k ∧ S.dq j = S.dq i + 1 ∧ G j = true) := by
      cases c with
      | true => exact ⟨true, by rw [if_neg (by decide +kernel)]; rfl, ⟨fun _ => Or.inl rfl, fun _ => rfl⟩⟩
      | false =>
        rw [if_pos (show bI false = 0 from rfl), has_ok (by omega) (by omega)]
        simp only [Option.bind_some]
        cases e : set.testBit k with
        | false =>
          refine ⟨false, by simp [bI], ⟨fun h => absurd h (by decide), ?_⟩⟩
          rintro (h | ⟨j, h, _⟩)
          · exact absurd h (by decide)
          · exact absurd h (by decide)
        | true =>
          have hl := hsub k e
          have hy := bhd_lt q2 hl
          obtain ⟨jy, y1, y2, y3, y4, y5⟩ := hI.succ hi (by omega) hl
          simp only [if_true]
          rw [if_neg (show ¬ (1 : Int32) = 0 by decide +kernel), MH_r13 hN, behind_ok hN hT q2 hl]
          simp only [Option.bind_some]
          rw [MH_a60 hN hy, MH_a60 hN q2, HB.far hI hH hi, ← y3, HB.far hI hH y2]
          simp only [Option.bind_some]
          rw [nI_1, MH_r15 hN]
          simp only [Option.bind_some]
          have d1 := hdq jy y2
          have d2 := hdq i hi
          have uniq : ∀ j, j < S.n → S.q j = S.q jy → j = jy := fun j hj e => by
            have e1 := (hI.2.1 j hj).1
            rw [e, (hI.2.1 jy y2).1] at e1
            exact (Option.some.inj e1).symm
          by_cases c2 : S.dq jy = S.dq i + 1
          · rw [if_pos (by rw [c2])]
            have hij : i < jy := by
              by_cases c3 : jy ≤ i
              · have := hI.2.2.2.2.2.1 jy i c3 hi
                omega
              · omega
            rw [MH_a62 hN (hI.2.1 jy y2).2.1, hG jy hij y2]
            simp only [Option.bind_some]
            cases eG : G jy with
            | false =>
              refine ⟨false, by rw [if_pos (show bI false = 0 from rfl)]; rfl, ⟨fun h => absurd h (by decide), ?_⟩⟩
              rintro (h | ⟨j, _, _, h2, h3, _, h5⟩)
              · exact absurd h (by decide)
              · rw [uniq j h2 h3, eG] at h5
                exact absurd h5 (by decide)
            | true => exact ⟨true, by rw [if_neg (show ¬ bI true = 0 by decide +kernel)]; rfl, ⟨fun _ => Or.inr ⟨jy, trivial, hij, y2, rfl, c2, eG⟩, fun _ => rfl⟩⟩
          · rw [if_neg (fun e => c2 ((nI_eq (by omega) (by omega)).mp e))]
            refine ⟨false, rfl, ⟨fun h => absurd h (by decide), ?_⟩⟩
            rintro (h | ⟨j, _, _, h2, h3, h4, _⟩)
            · exact absurd h (by decide)
            · rw [uniq j h2 h3] at h4
              exact absurd h4 c2
    obtain ⟨c1, v1', v2'⟩ := hval
    have fr : Fr62 a (va_up a 62 (upd (a 62) (S.q i) (bI c1))) := fun j hj => vup_n hj
    obtain ⟨a', c', g1, g2, g3, g4, g5⟩ := ih t (k + 1) c1 (va_up a 62 (upd (a 62) (S.q i) (bI c1))) (by omega) (by omega) (hH.fr62 fr) (hT.fr62 fr) (fun j hij hj => by
      rw [vup_s, upd_n (fun e => by
        have e1 := (hI.2.1 j hj).1
        rw [e, q1] at e1
        have := Option.some.inj e1
        omega)]
      exact hG j hij hj) (by rw [vup_s, upd_s])
    refine ⟨a', c', ?_, fun j hj => by rw [g2 j hj, fr j hj], g3, g4, ?_⟩
    · rw [L_X9_kth_81.eq_2, if_neg (show ¬ (16 : Int32) ≤ nI k by rw [show (16 : Int32) = nI 16 from rfl, nI_leI (by omega) (by omega)]; omega), MH_r15 hN]
      simp only [Option.bind_some]
      rw [MH_a62 hN q2, hc]
      simp only [Option.bind_some]
      rw [MH_r15 hN] at v1'
      simp only [Option.bind_some] at v1'
      rw [v1']
      simp only [Option.bind_some]
      rw [MH_s62 hN q2, nar_b]
      simp only [Option.bind_some]
      rw [nI_1]
      exact g1
    · rw [g5, v2']
      constructor
      · rintro ((h | ⟨j, h1, h2⟩) | ⟨u, j, h1, h2⟩)
        · exact Or.inl h
        · exact Or.inr ⟨k, j, Nat.le_refl _, by omega, h1, h2⟩
        · exact Or.inr ⟨u, j, by omega, h2⟩
      · rintro (h | ⟨u, j, h1, h2, h3⟩)
        · exact Or.inl (Or.inl h)
        · by_cases c2 : u = k
          · subst c2; exact Or.inl (Or.inr ⟨j, h3⟩)
          · exact Or.inr ⟨u, j, by omega, h2, h3⟩
theorem kth_8 (hN : 66 ≤ N) (hI : BI (lgl P H D kd) (bhd H D kd) (VX P D) s0 S S.n 0) {g : Nat} (hg : g < 4096) (hn : lsN (lgl P H D kd) (bhd H D kd) (arT g) s0 = n) (hn2 : n < 8192) {v3 : Int32} : ∀ (r t : Nat) (a : Nat → Nat → Int32), r ≤ S.n → r < t → HB f a S → Told f (a 58) P H D kd → (∀ j, r ≤ j → j < S.n → a 62 (S.q j) = bI (gdB (lgl P H D kd) (bhd H D kd) (arT g) n S j)) → ∃ a', L_X9_kth_8 N 53 (nI g) (nI n) v3 t (MH σ f a b) (nI r - 1) = some (MH σ f a' b) ∧ Fr62 a a' ∧ ∀ j, j < S.n → a' 62 (S.q j) = bI (gdB (lgl P H D kd) (bhd H D kd) (arT g) n S j) := by
  have hSn := hI.n_le
  intro r
  induction r with
  | zero =>
    intro t a hr ht hH hT hG
    obtain ⟨t, rfl⟩ : ∃ k, t = k + 1 := ⟨t - 1, by omega⟩
    refine ⟨a, ?_, fun _ _ => rfl, fun j hj => hG j (Nat.zero_le _) hj⟩
    rw [L_X9_kth_8.eq_2, if_pos (show nI 0 - 1 < 0 by decide +kernel)]
  | succ r ih =>
    intro t a hr ht hH hT hG
    obtain ⟨t, rfl⟩ : ∃ k, t = k + 1 := ⟨t - 1, by omega⟩
    have hi : r < S.n := by omega
    obtain ⟨q1, q2, q3⟩ := hI.2.1 r hi
    have hd := hI.dq_le r r (Nat.le_refl _) hi
    have hm := mms_lt P H D kd (S.q r)
    -- the first step
    have h1 : ((if nI (S.dq r) = nI n then if nI (S.q r) - nI (S.q r) / 4096 * 4096 = nI g then some 1 else some 0 else some 0) : Option Int32) = some (bI (decide (S.dq r = n) && arT g (S.q r))) := by
      rw [mod4096 (by omega)]
      by_cases c : S.dq r = n
      · rw [if_pos (by rw [c]), decide_eq_true c, Bool.true_and]
        unfold arT
        by_cases c2 : S.q r % 4096 = g
        · rw [if_pos (by rw [c2]), c2, beq_self_eq_true]; rfl
        · rw [if_neg (fun e => c2 ((nI_eq (by omega) (by omega)).mp e)), beq_eq_false_iff_ne.mpr c2]; rfl
      · rw [if_neg (fun e => c ((nI_eq (by omega) (by omega)).mp e)), decide_eq_false c]; rfl
    have fr : Fr62 a (va_up a 62 (upd (a 62) (S.q r) (bI (decide (S.dq r = n) && arT g (S.q r))))) := fun j hj => vup_n hj
    have hs : ∃ set, ((if nI n ≤ nI (S.dq r) then some 0 else (m_X9_movesOf N (MH σ f (va_up a 62 (upd (a 62) (S.q r) (bI (decide (S.dq r = n) && arT g (S.q r))))) b) 53 (nI (S.q r))).bind fun r38 => some r38) : Option Int32) = some (nI set) ∧ set < 65536 ∧ (set = 0 ∧ n ≤ S.dq r ∨ set = mms P H D kd (S.q r) ∧ S.dq r < n) := by
      by_cases c : n ≤ S.dq r
      · exact ⟨0, by rw [if_pos (by rw [nI_leI (by omega) (by omega)]; exact c)]; rfl, by omega, Or.inl ⟨rfl, c⟩⟩
      · refine ⟨_, ?_, hm, Or.inr ⟨rfl, by omega⟩⟩
        rw [if_neg (by rw [nI_leI (by omega) (by omega)]; exact c), movesOf_ok hN (hT.fr62 fr) q2]
        rfl
    obtain ⟨set, s1, s2, s3⟩ := hs
    have hsub : ∀ k, set.testBit k = true → lgl P H D kd (S.q r) k = true := fun k hk => by
      rcases s3 with ⟨rfl, _⟩ | ⟨rfl, _⟩
      · rw [Nat.zero_testBit] at hk; exact absurd hk (by decide)
      · exact hk
    have hdist : ∀ j, r < j → j < S.n → S.q j ≠ S.q r := fun j hj1 hj2 e => by
      have e1 := (hI.2.1 j hj2).1
      rw [e, q1] at e1
      have := Option.some.inj e1
      omega
    obtain ⟨a1, c', g1, g2, g3, g4, g5⟩ := kth_81 (N := N) (σ := σ) (b := b) (f := f) (v1 := nI g) (v2 := nI n) (v3 := v3) (v4 := nI r) hN hI hi (G := fun j => gdB (lgl P H D kd) (bhd H D kd) (arT g) n S j) s2 hsub 16 fu 0 (decide (S.dq r = n) && arT g (S.q r)) _ (by omega) (by decide) (hH.fr62 fr) (hT.fr62 fr) (fun j hj1 hj2 => by
      rw [vup_s, upd_n (hdist j hj1 hj2)]
      exact hG j (by omega) hj2) (by rw [vup_s, upd_s])
    have frr : Fr62 a a1 := fun j hj => by rw [g2 j hj, fr j hj]
    -- it is what it should be
    obtain ⟨_, _, m3, m4⟩ := frst_spec (p := fun r => cw (lgl P H D kd) (bhd H D kd) (arT g) r s0) 8192 0
    have hmin : ∀ u, u < n → cw (lgl P H D kd) (bhd H D kd) (arT g) u s0 = false := fun u hu => m3 u (Nat.zero_le _) (by unfold lsN at hn; omega)
    have hc' : c' = gdB (lgl P H D kd) (bhd H D kd) (arT g) n S r := by
      apply Bool.eq_iff_iff.mpr
      rw [g5]
      unfold gdB
      rw [Bool.and_eq_true, Bool.and_eq_true, decide_eq_true_iff, decide_eq_true_iff]
      constructor
      · rintro (⟨h1, h2⟩ | ⟨u, j, h1, h2, h3, h4, h5, h6, h7, h8⟩)
        · refine ⟨by omega, ?_⟩
          rw [h1, Nat.sub_self]; exact h2
        · rcases s3 with ⟨rfl, _⟩ | ⟨rfl, hlt⟩
          · rw [Nat.zero_testBit] at h3; exact absurd h3 (by decide)
          · refine ⟨by omega, ?_⟩
            rw [Bool.and_eq_true, decide_eq_true_iff] at h8
            rw [show n - S.dq r = (n - S.dq j) + 1 by omega]
            refine cw_succ.mpr ⟨u, h2, h3, ?_⟩
            rw [← h6]; exact h8.2
      · rintro ⟨h1, h2⟩
        by_cases c : S.dq r = n
        · left
          rw [c, Nat.sub_self] at h2
          exact ⟨c, h2⟩
        · right
          rw [show n - S.dq r = (n - S.dq r - 1) + 1 by omega] at h2
          obtain ⟨u, u1, u2, u3⟩ := cw_succ.mp h2
          obtain ⟨jy, y1, y2, y3, y4, y5⟩ := hI.succ hi u1 u2
          rw [← y3] at u3
          have hdy : S.dq r + 1 ≤ S.dq jy := by
            have := hI.cw2 (T := arT g) jy _ jy (Nat.le_refl _) y2 u3
            by_cases c2 : S.dq r + 1 ≤ S.dq jy
            · exact c2
            · rw [hmin _ (by omega)] at this
              exact absurd this (by decide)
          have hjy : r < jy := by
            by_cases c3 : jy ≤ r
            · have := hI.2.2.2.2.2.1 jy r c3 hi
              omega
            · omega
          refine ⟨u, jy, Nat.zero_le _, u1, ?_, hjy, y2, y3, by omega, ?_⟩
          · rcases s3 with ⟨_, h⟩ | ⟨rfl, _⟩
            · omega
            · exact u2
          · rw [Bool.and_eq_true, decide_eq_true_iff]
            refine ⟨by omega, ?_⟩
            rw [show n - S.dq jy = n - S.dq r - 1 by omega]; exact u3
    obtain ⟨a2, k1, k2, k3⟩ := ih t a1 (by omega) (by omega) (hH.fr62 frr) (hT.fr62 frr) (fun j hj1 hj2 => by
      by_cases c : j = r
      · subst c; rw [g4, hc']
      · exact g3 j (by omega) hj2)
    refine ⟨a2, ?_, fun j hj => by rw [k2 j hj, frr j hj], k3⟩
    rw [show nI (r + 1) - 1 = nI r by rw [show (1 : Int32) = nI 1 from rfl, pk_sub (by omega)]; rfl, L_X9_kth_8.eq_2, if_neg (nI_nlt0 (by omega)), MH_r14 hN]
    simp only [Option.bind_some]
    rw [MH_a61 hN (by omega), hH.2.1 r hi, MH_r15 hN, MH_r13 hN]
    simp only [Option.bind_some]
    rw [MH_a60 hN q2, HB.far hI hH hi]
    simp only [Option.bind_some]
    rw [h1]
    simp only [Option.bind_some]
    rw [MH_s62 hN q2, nar_b]
    simp only [Option.bind_some]
    rw [MH_r13 hN]
    simp only [Option.bind_some]
    rw [MH_a60 hN q2, HB.far hI (hH.fr62 fr) hi]
    simp only [Option.bind_some]
    rw [s1]
    simp only [Option.bind_some]
    rw [nI_0] at g1
    rw [g1]
    simp only [Option.bind_some]
    rw [show nI r + (-1) = nI r - 1 by rw [Int32.sub_eq_add_neg]]
    exact k1
/-- the first move that the fewest go by -/
theorem kth_204 (hN : 66 ≤ N) (hI : BI (lgl P H D kd) (bhd H D kd) (VX P D) s0 S S.n 0) (hH : HB f a S) (hT : Told f (a 58) P H D kd) {g : Nat} (hn : lsN (lgl P H D kd) (bhd H D kd) (arT g) s0 = n) (hn2 : n < 8192) (hG : ∀ j, j < S.n → a 62 (S.q j) = bI (gdB (lgl P H D kd) (bhd H D kd) (arT g) n S j)) {v3 : Int32} {i : Nat} (hi : i < n) {j0 : Nat} (hj0 : j0 < S.n) (hq0 : S.q j0 = fsx (lgl P H D kd) (bhd H D kd) (arT g) n s0 i) (hd0 : S.dq j0 = i) (hc : cw (lgl P H D kd) (bhd H D kd) (arT g) (n - 1 - i + 1) (S.q j0) = true) : ∀ (r t u : Nat), u + r = fsm (lgl P H D kd) (bhd H D kd) (arT g) n s0 i → r < t → L_X9_kth_204 N (MH σ f a b) 53 v3 (nI (S.q j0)) (nI i) (nI (mms P H D kd (S.q j0))) t (nI u) = some (nI (fsm (lgl P H D kd) (bhd H D kd) (arT g) n s0 i)) := by
  have hSn := hI.n_le
  have hm := mms_lt P H D kd (S.q j0)
  have q2 := (hI.2.1 j0 hj0).2.1
  obtain ⟨m1, m2, m3, m4⟩ := gmv_ok hc
  have hfsm : fsm (lgl P H D kd) (bhd H D kd) (arT g) n s0 i = gmv (lgl P H D kd) (bhd H D kd) (arT g) (n - 1 - i) (S.q j0) := by unfold fsm; rw [← hq0]
  rw [← hfsm] at m1 m2 m3 m4
  obtain ⟨_, _, p3, _⟩ := frst_spec (p := fun r => cw (lgl P H D kd) (bhd H D kd) (arT g) r s0) 8192 0
  have hmin : ∀ u, u < n → cw (lgl P H D kd) (bhd H D kd) (arT g) u s0 = false := fun u hu => p3 u (Nat.zero_le _) (by unfold lsN at hn; omega)
  intro r
  induction r with
  | zero =>
    intro t u hu ht
    obtain ⟨t, rfl⟩ : ∃ k, t = k + 1 := ⟨t - 1, by omega⟩
    rw [Nat.add_zero] at hu
    obtain ⟨jy, y1, y2, y3, y4, y5⟩ := hI.succ hj0 m1 m2
    have hy := bhd_lt q2 m2
    rw [← y3] at m3
    have hdy : S.dq jy = i + 1 := by
      have := hI.cw2 (T := arT g) jy _ jy (Nat.le_refl _) y2 m3
      by_cases c2 : i + 1 ≤ S.dq jy
      · omega
      · rw [hmin _ (by omega)] at this
        exact absurd this (by decide)
    have hb : (mms P H D kd (S.q j0)).testBit (fsm (lgl P H D kd) (bhd H D kd) (arT g) n s0 i) = true := m2
    rw [hu, L_X9_kth_204.eq_2, has_ok (by omega) (by omega), hb]
    simp only [Option.bind_some, if_true]
    rw [if_neg (show ¬ (1 : Int32) = 0 by decide +kernel), MH_r13 hN, behind_ok hN hT q2 m2]
    simp only [Option.bind_some]
    rw [MH_a60 hN hy, ← y3, HB.far hI hH y2, hdy]
    simp only [Option.bind_some]
    rw [nI_1, if_pos rfl, MH_r15 hN]
    simp only [Option.bind_some]
    rw [MH_a62 hN (by rw [y3]; exact hy), hG jy y2]
    simp only [Option.bind_some]
    have hgd : gdB (lgl P H D kd) (bhd H D kd) (arT g) n S jy = true := by
      unfold gdB
      rw [Bool.and_eq_true, decide_eq_true_iff, hdy]
      refine ⟨by omega, ?_⟩
      rw [show n - (i + 1) = n - 1 - i by omega]; exact m3
    rw [hgd, if_neg (show ¬ bI true = 0 by decide +kernel)]
  | succ r ih =>
    intro t u hu ht
    obtain ⟨t, rfl⟩ : ∃ k, t = k + 1 := ⟨t - 1, by omega⟩
    have hrec := ih t (u + 1) (by omega) (by omega)
    rw [L_X9_kth_204.eq_2, has_ok (by omega) (by omega)]
    simp only [Option.bind_some]
    rw [nI_1]
    cases e : (mms P H D kd (S.q j0)).testBit u with
    | false =>
      simp only [Bool.false_eq_true, if_false, if_true]
      exact hrec
    | true =>
      have hl : lgl P H D kd (S.q j0) u = true := e
      obtain ⟨jy, y1, y2, y3, y4, y5⟩ := hI.succ hj0 (show u < 16 by omega) hl
      have hy := bhd_lt q2 hl
      have hno := m4 u (by omega) hl
      have hdj := hI.dq_le jy jy (Nat.le_refl _) y2
      simp only [if_true]
      rw [if_neg (show ¬ (1 : Int32) = 0 by decide +kernel), MH_r13 hN, behind_ok hN hT q2 hl]
      simp only [Option.bind_some]
      rw [MH_a60 hN hy, ← y3, HB.far hI hH y2]
      simp only [Option.bind_some]
      rw [nI_1]
      by_cases c : S.dq jy = i + 1
      · rw [if_pos (by rw [c]), MH_r15 hN]
        simp only [Option.bind_some]
        rw [MH_a62 hN (by rw [y3]; exact hy), hG jy y2]
        simp only [Option.bind_some]
        have hgd : gdB (lgl P H D kd) (bhd H D kd) (arT g) n S jy = false := by
          unfold gdB
          rw [show n - S.dq jy = n - 1 - i by omega, y3, hno, Bool.and_false]
        rw [hgd, if_pos (show bI false = 0 from rfl)]
        exact hrec
      · rw [if_neg (fun e => c ((nI_eq (by omega) (by omega)).mp e))]
        exact hrec
theorem kth_187 (hN : 66 ≤ N) (hI : BI (lgl P H D kd) (bhd H D kd) (VX P D) s0 S S.n 0) (hH : HB f a S) (hT : Told f (a 58) P H D kd) {g : Nat} (hn : lsN (lgl P H D kd) (bhd H D kd) (arT g) s0 = n) (hn2 : n < 8192) (hG : ∀ j, j < S.n → a 62 (S.q j) = bI (gdB (lgl P H D kd) (bhd H D kd) (arT g) n S j)) {k : Nat} (hk : k < n) : ∀ (r t i : Nat) (v5 : Int32), i + r = k + 1 → r < t → (r = 0 → v5 = nI (fsm (lgl P H D kd) (bhd H D kd) (arT g) n s0 k)) → L_X9_kth_187 N (MH σ f a b) 53 (nI k) t (nI (fsx (lgl P H D kd) (bhd H D kd) (arT g) n s0 i)) v5 (nI i) = some (nI (fsm (lgl P H D kd) (bhd H D kd) (arT g) n s0 k)) := by
  have hSn := hI.n_le
  have hcN : cw (lgl P H D kd) (bhd H D kd) (arT g) n s0 = true := by
    obtain ⟨_, _, _, g4⟩ := frst_spec (p := fun r => cw (lgl P H D kd) (bhd H D kd) (arT g) r s0) 8192 0
    have := g4 (by unfold lsN at hn; omega)
    unfold lsN at hn
    rw [hn] at this
    exact this
  intro r
  induction r with
  | zero =>
    intro t i v5 hi ht hv
    obtain ⟨t, rfl⟩ : ∃ k, t = k + 1 := ⟨t - 1, by omega⟩
    rw [L_X9_kth_187.eq_2, if_pos (by rw [nI_ltI (by omega) (by omega)]; omega), hv rfl]
  | succ r ih =>
    intro t i v5 hi ht hv
    obtain ⟨t, rfl⟩ : ∃ k, t = k + 1 := ⟨t - 1, by omega⟩
    obtain ⟨j, j1, j2, j3, j4, j5, j6⟩ := hI.path hn hn2 i (by omega)
    have hc := fsx_ok hcN i (by omega)
    rw [show n - i = n - 1 - i + 1 by omega, ← j3] at hc
    obtain ⟨m1, m2, m3, _⟩ := gmv_ok hc
    have hfsm : fsm (lgl P H D kd) (bhd H D kd) (arT g) n s0 i = gmv (lgl P H D kd) (bhd H D kd) (arT g) (n - 1 - i) (S.q j) := by unfold fsm; rw [← j3]
    rw [← hfsm] at m1 m2
    have q2 := (hI.2.1 j j1).2.1
    have h204 := kth_204 (N := N) (σ := σ) (b := b) (v3 := nI k) hN hI hH hT hn hn2 hG (show i < n by omega) j1 j3 j4 hc (fsm (lgl P H D kd) (bhd H D kd) (arT g) n s0 i) fu 0 (by omega) (by show _ < 20000; omega)
    rw [nI_0] at h204
    rw [L_X9_kth_187.eq_2, if_neg (by rw [nI_ltI (by omega) (by omega)]; omega), ← j3, movesOf_ok hN hT q2]
    simp only [Option.bind_some]
    rw [h204]
    simp only [Option.bind_some]
    rw [behind_ok hN hT q2 m2]
    simp only [Option.bind_some]
    rw [nI_1]
    have hx : bhd H D kd (S.q j) (fsm (lgl P H D kd) (bhd H D kd) (arT g) n s0 i) = fsx (lgl P H D kd) (bhd H D kd) (arT g) n s0 (i + 1) := by rw [fsx, hfsm, ← j3]
    rw [hx]
    exact ih t (i + 1) _ (by omega) (by omega) (fun h0 => by rw [show i = k by omega])
/-- the answer: how many, or which -/
def o_lst (bd : AB) (g : Nat) (k : Int32) : Int32 :=
  if lsN (lgl bd.P bd.H bd.D bd.kd) (bhd bd.H bd.D bd.kd) (arT g) (stx bd) = 8192 then -1000000 else if k < nI (lsN (lgl bd.P bd.H bd.D bd.kd) (bhd bd.H bd.D bd.kd) (arT g) (stx bd)) then (if 0 ≤ k then nI (10 * (fsm (lgl bd.P bd.H bd.D bd.kd) (bhd bd.H bd.D bd.kd) (arT g) (lsN (lgl bd.P bd.H bd.D bd.kd) (bhd bd.H bd.D bd.kd) (arT g) (stx bd)) (stx bd) (nt k) / 4) + fsm (lgl bd.P bd.H bd.D bd.kd) (bhd bd.H bd.D bd.kd) (arT g) (lsN (lgl bd.P bd.H bd.D bd.kd) (bhd bd.H bd.D bd.kd) (arT g) (stx bd)) (stx bd) (nt k) % 4) else nI (lsN (lgl bd.P bd.H bd.D bd.kd) (bhd bd.H bd.D bd.kd) (arT g) (stx bd))) else -1000000
theorem leastTo_ok (hN : 66 ≤ N) (h : RM f a s) (hv : VA m s) (h0 : s.bd ≠ noB) (hm : m < 2 ^ 30) {g : Nat} (hg : g < 4096) (k : Int32) : ∃ f' a', m_X9_leastTo N (MH σ f a b) 53 (nI g) k = some (o_lst s.bd g k, MH σ f' a' b) ∧ RM f' a' s := by
  have hV := hv.2.2.1
  obtain ⟨f1, a1, S, g1, g2, g3, g4, g5⟩ := spreads_ok (N := N) (f := f) (b := b) (σ := σ) hN h.2.2.2.2.1 hV h0 hm
  have hR := h.frs g2
  unfold m_X9_leastTo o_lst
  rw [MH_rv hN, g1]
  simp only [Option.bind_some]
  rw [farTo_ok hN g3 g4 hg]
  simp only [Option.bind_some]
  have hle := (frst_spec (p := fun r => cw (lgl s.bd.P s.bd.H s.bd.D s.bd.kd) (bhd s.bd.H s.bd.D s.bd.kd) (arT g) r (stx s.bd)) 8192 0).2.1
  rw [Nat.zero_add] at hle
  have hle : lsN (lgl s.bd.P s.bd.H s.bd.D s.bd.kd) (bhd s.bd.H s.bd.D s.bd.kd) (arT g) (stx s.bd) ≤ 8192 := hle
  generalize hn : lsN (lgl s.bd.P s.bd.H s.bd.D s.bd.kd) (bhd s.bd.H s.bd.D s.bd.kd) (arT g) (stx s.bd) = n at hle ⊢
  unfold farI
  by_cases c : n = 8192
  · rw [if_pos c, if_pos c, if_pos (by decide +kernel)]
    exact ⟨f1, a1, rfl, hR⟩
  · rw [if_neg c, if_neg c, if_neg (nI_nlt0 (by omega))]
    by_cases c1 : k < nI n
    · rw [if_pos c1, if_pos c1]
      by_cases c2 : 0 ≤ k
      · rw [if_pos c2, if_pos c2]
        obtain ⟨k, hk, rfl⟩ := ni_of (n := n) (by omega) c2 (by rw [Int32.le_iff_toInt_le]; rw [Int32.lt_iff_toInt_lt] at c1; omega)
        rw [nI_ltI (by omega) (by omega)] at c1
        rw [nt_nI (by omega)]
        have hSn := g3.n_le
        unfold m_X9_kth
        rw [MH_rv hN, MH_f16 hN, g4.1]
        simp only [Option.bind_some]
        obtain ⟨a2, k1, k2, k3⟩ := kth_8 (N := N) (σ := σ) (b := b) (v3 := nI k) hN g3 hg hn (by omega) S.n fu a1 (Nat.le_refl _) (by show _ < 20000; omega) g4 g5 (fun j h1 h2 => absurd h2 (by omega))
        rw [k1]
        simp only [Option.bind_some]
        rw [MH_r14 hN]
        simp only [Option.bind_some]
        have h4' := g4.fr62 k2
        rw [show (0 : Int32) = nI 0 from rfl, MH_a61 hN (by omega), h4'.2.1 0 g3.1.1, g3.1.2.1]
        simp only [Option.bind_some]
        have h187 := kth_187 (N := N) (σ := σ) (b := b) hN g3 h4' (g5.fr62 k2) hn (by omega) k3 c1 (k + 1) fu 0 (nI 0) (by omega) (by show _ < 20000; omega) (fun e => absurd e (by omega))
        rw [show fsx (lgl s.bd.P s.bd.H s.bd.D s.bd.kd) (bhd s.bd.H s.bd.D s.bd.kd) (arT g) n (stx s.bd) 0 = stx s.bd from rfl] at h187
        rw [h187]
        simp only [Option.bind_some]
        have hlt : fsm (lgl s.bd.P s.bd.H s.bd.D s.bd.kd) (bhd s.bd.H s.bd.D s.bd.kd) (arT g) n (stx s.bd) k < 16 := by
          obtain ⟨_, _, _, g4⟩ := frst_spec (p := fun r => cw (lgl s.bd.P s.bd.H s.bd.D s.bd.kd) (bhd s.bd.H s.bd.D s.bd.kd) (arT g) r (stx s.bd)) 8192 0
          have hcN : cw (lgl s.bd.P s.bd.H s.bd.D s.bd.kd) (bhd s.bd.H s.bd.D s.bd.kd) (arT g) n (stx s.bd) = true := by
            have := g4 (by unfold lsN at hn; omega)
            unfold lsN at hn
            rw [hn] at this
            exact this
          have hc := fsx_ok hcN k (by omega)
          rw [show n - k = n - 1 - k + 1 by omega] at hc
          exact (gmv_ok hc).1
        rw [(div4 hlt).2, (div4 hlt).1, show (10 : Int32) = nI 10 from rfl, pk_mul, nI_add]
        exact ⟨f1, a2, rfl, hR.fr62 k2⟩
      · rw [if_neg c2, if_neg c2]
        exact ⟨f1, a1, rfl, hR⟩
    · rw [if_neg c1, if_neg c1]
      exact ⟨f1, a1, rfl, hR⟩
end MK
