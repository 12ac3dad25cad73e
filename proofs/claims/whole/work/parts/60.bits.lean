/-! bits as the class counts them -/
/-- sets of moves: no move leads to where it begins -/
def fam (s : Nat) : Prop := s < 32768 ∧ s % 2 = 0 ∧ s / 32 % 2 = 0 ∧ s / 1024 % 2 = 0
theorem fam_eq {s : Nat} (h : fam s) : s = 2 * (s / 2 % 16) + 64 * (s / 64 % 16) + 2048 * (s / 2048 % 16) := by
  obtain ⟨h1, h2, h3, h4⟩ := h
  omega
theorem bcnt_t : ∀ x, x < 16 → ∀ y, y < 16 → ∀ z, z < 16 → m_J6_bitCount_0f7a4 (nI (2 * x + 64 * y + 2048 * z)) = some (nI (cnt (2 * x + 64 * y + 2048 * z))) := by decide +kernel
theorem least_t : ∀ x, x < 16 → ∀ y, y < 16 → ∀ z, z < 16 → 2 * x + 64 * y + 2048 * z = 0 ∨ m_X2_leastOf (nI (2 * x + 64 * y + 2048 * z)) = some (nI (sel (2 * x + 64 * y + 2048 * z) 0)) := by decide +kernel
theorem bcnt_fam {s : Nat} (h : fam s) : m_J6_bitCount_0f7a4 (nI s) = some (nI (cnt s)) := by
  have := bcnt_t (s / 2 % 16) (Nat.mod_lt _ (by omega)) (s / 64 % 16) (Nat.mod_lt _ (by omega)) (s / 2048 % 16) (Nat.mod_lt _ (by omega))
  rw [← fam_eq h] at this
  exact this
theorem least_fam {s : Nat} (h : fam s) (h0 : s ≠ 0) : m_X2_leastOf (nI s) = some (nI (sel s 0)) := by
  have := least_t (s / 2 % 16) (Nat.mod_lt _ (by omega)) (s / 64 % 16) (Nat.mod_lt _ (by omega)) (s / 2048 % 16) (Nat.mod_lt _ (by omega))
  rw [← fam_eq h] at this
  exact this.resolve_left h0
theorem bcnt_64 : ∀ s, s < 64 → m_J6_bitCount_0f7a4 (nI s) = some (nI (bc s)) := by decide +kernel
theorem least_64 : ∀ s, s < 64 → s = 0 ∨ m_X2_leastOf (nI s) = some (nI (low s)) := by decide +kernel
theorem fam_tb {s : Nat} (hs : s < 65536) : fam s ↔ s.testBit 0 = false ∧ s.testBit 5 = false ∧ s.testBit 10 = false ∧ s.testBit 15 = false := by
  have e : ∀ k, s.testBit k = false ↔ s / 2 ^ k % 2 = 0 := fun k => by
    rw [tb_div]
    cases s.testBit k <;> simp
  rw [e 0, e 5, e 10, e 15]
  unfold fam
  rw [show 2 ^ 0 = 1 from rfl, show 2 ^ 5 = 32 from rfl, show 2 ^ 10 = 1024 from rfl, show 2 ^ 15 = 32768 from rfl]
  omega
/-- a set without its lowest -/
theorem clr_tb {s l : Nat} (h1 : ∀ i, i < l → s.testBit i = false) (h2 : s.testBit l = true) (i : Nat) : (s &&& (s - 1)).testBit i = (s.testBit i && decide (i ≠ l)) := by
  rw [Nat.testBit_and]
  have hm : s % 2 ^ l = 0 := by
    apply Nat.eq_of_testBit_eq
    intro j
    rw [Nat.testBit_mod_two_pow, Nat.zero_testBit]
    by_cases c : j < l
    · rw [h1 j c, Bool.and_false]
    · rw [decide_eq_false c, Bool.false_and]
  have hb : s / 2 ^ l % 2 = 1 := by rw [tb_div, h2]; rfl
  have hp : 0 < 2 ^ l := Nat.pow_pos (by omega)
  have hs : s = 2 ^ l * (s / 2 ^ l) := by have := Nat.div_add_mod s (2 ^ l); omega
  generalize hq : s / 2 ^ l = q at hb hs
  by_cases c1 : i < l
  · rw [h1 i c1, Bool.false_and, Bool.false_and]
  · by_cases c2 : i = l
    · subst c2
      rw [h2, Bool.true_and]
      have e1 : (s - 1) / 2 ^ i = q - 1 := by
        rw [show s - 1 = (2 ^ i - 1) + 2 ^ i * (q - 1) by
          have : 2 ^ i * q = 2 ^ i * (q - 1) + 2 ^ i := by rw [← Nat.mul_succ]; congr 1; omega
          omega, Nat.add_mul_div_left _ _ hp, Nat.div_eq_of_lt (by omega), Nat.zero_add]
      have : (s - 1) / 2 ^ i % 2 = 0 := by rw [e1]; omega
      rw [tb_div] at this
      cases hc : (s - 1).testBit i with
      | false => simp
      | true => rw [hc] at this; exact absurd this (by simp)
    · rw [decide_eq_true c2, Bool.and_true]
      have e1 : (s - 1) / 2 ^ (l + 1) = s / 2 ^ (l + 1) := by
        have hq2 : q = 2 * (q / 2) + 1 := by omega
        rw [Nat.pow_succ, ← Nat.div_div_eq_div_mul, ← Nat.div_div_eq_div_mul, hq]
        rw [show s - 1 = (2 ^ l - 1) + 2 ^ l * (q - 1) by
          have : 2 ^ l * q = 2 ^ l * (q - 1) + 2 ^ l := by rw [← Nat.mul_succ]; congr 1; omega
          omega, Nat.add_mul_div_left _ _ hp, Nat.div_eq_of_lt (show 2 ^ l - 1 < 2 ^ l by omega), Nat.zero_add]
        omega
      have e2 : (s - 1).testBit i = s.testBit i := by
        rw [show i = (i - (l + 1)) + (l + 1) by omega, ← Nat.testBit_div_two_pow, ← Nat.testBit_div_two_pow, e1]
      rw [e2, Bool.and_self]
theorem selR_0 {s : Nat} : ∀ r, r ≤ 16 → ∀ i, 16 - r ≤ i → i < selR s r 0 → s.testBit i = false := by
  intro r
  induction r with
  | zero => intro _ i h1 h2; exact absurd h2 (by rw [selR]; omega)
  | succ r ih =>
    intro hr i h1 h2
    rw [selR] at h2
    by_cases c : i = 15 - r
    · subst c
      cases e : s.testBit (15 - r) with
      | false => rfl
      | true => rw [e, if_pos rfl, if_pos rfl] at h2; exact absurd h2 (by omega)
    · cases e : s.testBit (15 - r) with
      | false => rw [e, if_neg (by decide)] at h2; exact ih (by omega) i (by omega) h2
      | true => rw [e, if_pos rfl, if_pos rfl] at h2; exact absurd h2 (by omega)
theorem sel_clr {s s' : Nat} (h : ∀ i, i < 16 → s'.testBit i = (s.testBit i && decide (i ≠ sel s 0))) (a : Nat) : sel s (a + 1) = sel s' a := by
  -- behind the lowest both are the same
  have same : ∀ r, r ≤ 16 → sel s 0 < 16 - r → ∀ a, selR s r a = selR s' r a := by
    intro r
    induction r with
    | zero => intro _ _ _; rfl
    | succ r ih =>
      intro hr hl a
      rw [selR, selR, h (15 - r) (by omega), decide_eq_true (show 15 - r ≠ sel s 0 by omega), Bool.and_true, ih (by omega) (by omega), ih (by omega) (by omega)]
  have key : ∀ r, r ≤ 16 → sel s 0 = selR s r 0 → 16 - r ≤ sel s 0 → selR s r (a + 1) = selR s' r a := by
    intro r
    induction r with
    | zero => intro _ _ _; rfl
    | succ r ih =>
      intro hr he hl
      rw [selR, selR, h (15 - r) (by omega)]
      rw [selR] at he
      cases e : s.testBit (15 - r) with
      | true =>
        rw [e, if_pos rfl, if_pos rfl] at he
        rw [if_pos rfl, if_neg (by omega), decide_eq_false (fun c => c he.symm), Bool.and_false, if_neg (by decide), Nat.add_sub_cancel]
        exact same r (by omega) (by omega) a
      | false =>
        rw [e, if_neg (by decide)] at he
        rw [if_neg (by decide), Bool.false_and, if_neg (by decide)]
        refine ih (by omega) he ?_
        by_cases c : sel s 0 = 15 - r
        · have hlt : selR s r 0 < 16 ∨ selR s r 0 = 16 := by
            have : ∀ r a, selR s r a ≤ 16 := by
              intro r
              induction r with
              | zero => intro a; exact Nat.le_refl _
              | succ r ih => intro a; rw [selR]; split; split; omega; exact ih _; exact ih _
            have := this r 0; omega
          have hge : ∀ r a, r ≤ 16 → 16 - r ≤ selR s r a := by
            intro r
            induction r with
            | zero => intro a _; exact Nat.le_refl _
            | succ r ih =>
              intro a hr
              rw [selR]
              split
              · split
                · omega
                · have := ih (a - 1) (by omega); omega
              · have := ih a (by omega); omega
          have := hge r 0 (by omega)
          omega
        · omega
  exact key 16 (Nat.le_refl _) rfl (Nat.zero_le _)
theorem cnt0 {s : Nat} (h : cnt s ≠ 0) : s ≠ 0 := fun e => h (by rw [e]; decide)
theorem cnt_clr {s : Nat} (hs : s < 65536) (h0 : cnt s ≠ 0) : (∀ i, i < 16 → (s &&& (s - 1)).testBit i = (s.testBit i && decide (i ≠ sel s 0))) ∧ cnt (s &&& (s - 1)) + 1 = cnt s := by
  have hl := sel_ok (s := s) (a := 0) (by omega)
  have hlow : ∀ i, i < sel s 0 → s.testBit i = false := fun i hi => selR_0 16 (Nat.le_refl _) i (Nat.zero_le _) hi
  have ht := clr_tb hlow hl.2
  refine ⟨fun i _ => ht i, ?_⟩
  have e : ∀ u, cnt u = sgm (fun j => if u.testBit j then 1 else 0) 16 := fun u => bcR_sgm u 16
  rw [e, e]
  rw [← sgm_up (f := fun j => if (s &&& (s - 1)).testBit j then 1 else 0) (y := sel s 0) (v := 1) 16 hl.1]
  refine sgm_congr 16 (fun j _ => ?_)
  by_cases c : j = sel s 0
  · subst c
    rw [vu_s, ht, hl.2, decide_eq_false (fun c => c rfl), Bool.and_false]; rfl
  · rw [vu_n c, ht, decide_eq_true c, Bool.and_true]
theorem fam_clr {s t : Nat} (h : fam s) (hs : s < 65536) (ht : ∀ i, t.testBit i = true → s.testBit i = true) (ht2 : t < 65536) : fam t := by
  rw [fam_tb hs] at h
  rw [fam_tb ht2]
  have k : ∀ i, s.testBit i = false → t.testBit i = false := fun i hi => by
    cases e : t.testBit i with
    | false => rfl
    | true => rw [ht i e] at hi; exact absurd hi (by decide)
  exact ⟨k _ h.1, k _ h.2.1, k _ h.2.2.1, k _ h.2.2.2⟩
theorem pick_loop : ∀ (r t k s v : Nat), k + r = v → r < t → v < 100 → s < 65536 → fam s → r < cnt s → ∃ u, L_X2_pick_4 (nI v) t (nI s) (nI k) = some (nI u) ∧ fam u ∧ u ≠ 0 ∧ sel u 0 = sel s r := by
  intro r
  induction r with
  | zero =>
    intro t k s v hk ht hv hs hf hc
    obtain ⟨t, rfl⟩ : ∃ k, t = k + 1 := ⟨t - 1, by omega⟩
    obtain rfl : k = v := by omega
    exact ⟨s, by rw [L_X2_pick_4.eq_2, if_pos (nI_le (Nat.le_refl _) (by omega))], hf, cnt0 (by omega), rfl⟩
  | succ r ih =>
    intro t k s v hk ht hv hs hf hc
    obtain ⟨t, rfl⟩ : ∃ k, t = k + 1 := ⟨t - 1, by omega⟩
    obtain ⟨c1, c2⟩ := cnt_clr hs (by omega)
    have hs0 := cnt0 (show cnt s ≠ 0 by omega)
    have hl : s &&& (s - 1) < 65536 := Nat.lt_of_le_of_lt Nat.and_le_left hs
    obtain ⟨u, u1, u2, u3, u4⟩ := ih t (k + 1) (s &&& (s - 1)) v (by omega) (by omega) hv hl (fam_clr hf hs (fun i hi => by rw [Nat.testBit_and, Bool.and_eq_true] at hi; exact hi.1) hl) (by omega)
    refine ⟨u, ?_, u2, u3, by rw [u4, sel_clr c1 r]⟩
    rw [L_X2_pick_4.eq_2, if_neg (nI_ge (by omega) (by omega)), show (1 : Int32) = nI 1 from rfl, pk_sub (by omega), ni_and, nI_add]
    exact u1
theorem pick_ok {s a : Nat} (hs : s < 65536) (hf : fam s) (ha : a < cnt s) : m_X2_pick (nI s) (nI a) = some (nI (sel s a)) := by
  have hc := bcR_le s 16
  unfold m_X2_pick
  obtain ⟨u, u1, u2, u3, u4⟩ := pick_loop a fu 0 s a (by omega) (by show _ < 20000; unfold cnt at ha; omega) (by unfold cnt at ha; omega) hs hf ha
  rw [nI_0] at u1
  rw [u1]
  simp only [Option.bind_some]
  rw [least_fam u2 u3, u4]
  rfl
theorem mms_fam {P H D : Nat} {kd : Nat → Nat} {x : Nat} : fam (mms P H D kd x) := by
  rw [fam_tb (mms_lt P H D kd x)]
  have k : ∀ i, i / 4 = i % 4 → (mms P H D kd x).testBit i = false := fun i hi => by
    cases e : (mms P H D kd x).testBit i with
    | false => rfl
    | true =>
      have := ((lgl_iff P H D kd x i).mp e).2.2.2
      unfold mvr at this
      rw [if_pos (Or.inl hi)] at this
      exact absurd this (by omega)
  exact ⟨k 0 rfl, k 5 rfl, k 10 rfl, k 15 rfl⟩
