/-! the class: rows -/
/-- a row of ints filled -/
theorem fill_loop {N i n : Nat} {v : Int32} (hi : i < N) (hn : n < 10000) : ∀ (r t j : Nat) (τ : Hp) (g : Nat → Int32), j + r = n → r < t → τ i = .inl (0, n, .inl g) → L_J7_fill_53178_5 N i v (nI n) t τ (nI j) = some (va_up τ i (.inl (0, n, .inl (fun k => if j ≤ k ∧ k < n then v else g k)))) := by
  intro r
  induction r with
  | zero =>
    intro t j τ g hj ht h
    obtain ⟨t, rfl⟩ : ∃ k, t = k + 1 := ⟨t - 1, by omega⟩
    obtain rfl : j = n := by omega
    rw [L_J7_fill_53178_5.eq_2, if_pos (nI_le (Nat.le_refl _) (by omega))]
    congr 1
    funext k
    by_cases c : k = i
    · subst c; rw [vup_s, h]
      congr 4
      funext q
      rw [if_neg (by omega)]
    · rw [vup_n c]
  | succ r ih =>
    intro t j τ g hj ht h
    obtain ⟨t, rfl⟩ : ∃ k, t = k + 1 := ⟨t - 1, by omega⟩
    rw [L_J7_fill_53178_5.eq_2, if_neg (nI_ge (by omega) (by omega)), sI_of hi h (by omega) (by omega)]
    simp only [Option.bind_some]
    have e : (fun k => if j + 1 ≤ k ∧ k < n then v else upd g j v k) = (fun k => if j ≤ k ∧ k < n then v else g k) := by
      funext q
      by_cases c : q = j
      · subst c; rw [if_neg (show ¬ (q + 1 ≤ q ∧ q < n) by omega), upd_s, if_pos (show q ≤ q ∧ q < n by omega)]
      · rw [upd_n c]
        by_cases c2 : j + 1 ≤ q ∧ q < n
        · rw [if_pos c2, if_pos (show j ≤ q ∧ q < n by omega)]
        · rw [if_neg c2, if_neg (show ¬ (j ≤ q ∧ q < n) by omega)]
    rw [nI_1, show nar 0 v = v from rfl, ih t (j + 1) _ (upd g j v) (by omega) (by omega) vup_s, vup_vup, e]
theorem fill_ok {N i n : Nat} {v : Int32} {τ : Hp} {g : Nat → Int32} (hi : i < N) (hn : n < 10000) (h : τ i = .inl (0, n, .inl g)) : m_J7_fill_53178 N τ i v = some (va_up τ i (.inl (0, n, .inl (fun k => if k < n then v else g k)))) := by
  unfold m_J7_fill_53178
  rw [aN_of hi h (by omega)]
  simp only [Option.bind_some]
  have := fill_loop (v := v) hi hn n fu 0 τ g (by omega) (by show _ < 20000; omega) h
  rw [nI_0] at this
  have e : (fun k => if 0 ≤ k ∧ k < n then v else g k) = (fun k => if k < n then v else g k) := by
    funext q
    by_cases c : q < n
    · rw [if_pos c, if_pos (show 0 ≤ q ∧ q < n from ⟨Nat.zero_le _, c⟩)]
    · rw [if_neg c, if_neg (show ¬ (0 ≤ q ∧ q < n) from fun e => c e.2)]
  rw [this, e]
  rfl
theorem i32_sub {a b : Nat} (ha : a < 2 ^ 31) (hb : b < 2 ^ 31) : (nI a - nI b).toInt = (a : Int) - b := by
  rw [Int32.toInt_sub, nI_toInt ha, nI_toInt hb]
  exact Int.bmod_eq_of_le (by omega) (by omega)
section CRo
variable {N m : Nat} {σ : Hp} {u : Nat → Nat → Int32} {R : CR} {s : AS}
theorem missing_ok (hN : 66 ≤ N) (h : RC u s) {k : Nat} (hk : k < 8) : m_X5_isMissing N (CH σ u R) (35 + 2 * k) = some (if s.lane k = -1 then 1 else 0) := by
  unfold m_X5_isMissing
  rw [R_rv hN hk, R_i0 hN hk, (h.1 k hk).1]
  simp only [Option.bind_some]
  by_cases c : s.lane k = -1
  · rw [if_pos c, if_pos c]
  · rw [if_neg c, if_neg c]
theorem flaw_ok (hN : 66 ≤ N) (h : RC u s) (hv : VA m s) {k : Nat} (hk : k < 8) (i n : Int32) : m_X5_flaw N (CH σ u R) (35 + 2 * k) i n = some (wrg s k i n) := by
  obtain ⟨r1, r2, r3⟩ := h.1 k hk
  have hs := (hv.1 k hk).2
  unfold m_X5_flaw wrg
  rw [R_rv hN hk, missing_ok hN h hk]
  simp only [Option.bind_some]
  by_cases c : s.lane k = -1
  · rw [if_pos c, if_pos c, if_neg (show ¬ (1 : Int32) = 0 by decide +kernel)]
  · rw [if_neg c, if_neg c, if_pos (show (0 : Int32) = 0 from rfl)]
    unfold wthB
    by_cases c1 : i < 0
    · have : decide (0 ≤ i) = false := decide_eq_false (fun e => by rw [Int32.le_iff_toInt_le] at e; rw [Int32.lt_iff_toInt_lt] at c1; omega)
      rw [if_pos c1, this, Bool.false_and, Bool.false_and]; rfl
    · rw [if_neg c1]
      by_cases c2 : n < 0
      · have : decide (0 ≤ n) = false := decide_eq_false (fun e => by rw [Int32.le_iff_toInt_le] at e; rw [Int32.lt_iff_toInt_lt] at c2; omega)
        rw [if_pos c2, this, Bool.and_false, Bool.false_and]; rfl
      · obtain ⟨x, hx, rfl⟩ := nI_of c1
        obtain ⟨w, hw, rfl⟩ := nI_of c2
        rw [if_neg c2, R_i1 hN hk, r2, if_neg c, nt_nI hx, nt_nI hw, decide_eq_true (nI_ge0 hx), decide_eq_true (nI_ge0 hw), Bool.true_and, Bool.true_and]
        simp only [Option.bind_some]
        by_cases c3 : x + w ≤ s.size k
        · rw [if_pos (show nI x ≤ nI (s.size k) - nI w by rw [Int32.le_iff_toInt_le, i32_sub (by omega) hw, nI_toInt hx]; omega), decide_eq_true c3]; rfl
        · rw [if_neg (show ¬ nI x ≤ nI (s.size k) - nI w by rw [Int32.le_iff_toInt_le, i32_sub (by omega) hw, nI_toInt hx]; omega), decide_eq_false c3]; rfl
theorem itemAt_ok (hN : 66 ≤ N) (h : RC u s) {k j : Nat} (hk : k < 8) (hl : s.lane k ≠ -1) (hj : j < s.size k) (hs : s.size k ≤ 40) : m_X5_itemAt N (CH σ u R) (35 + 2 * k) (nI j) = some (s.items k j) := by
  obtain ⟨r1, r2, r3⟩ := h.1 k hk
  unfold m_X5_itemAt
  rw [R_rv hN hk, R_i1 hN hk, r2, if_neg hl]
  simp only [Option.bind_some]
  rw [if_neg (nI_nlt0 (by omega)), if_pos (show nI j < nI (s.size k) by rw [nI_ltI (by omega) (by omega)]; exact hj), R_r2 hN hk]
  simp only [Option.bind_some]
  rw [I_a hN hk (by omega), r3 j (by omega)]
  rfl
theorem co_row (hN : 66 ≤ N) (h : RC u s) (r l n : Int32) : COp N u R (fun τ => m_X8_row N τ 0 r l n) (o_row s r l n).1 (o_row s r l n).2 := by
  intro σ
  show ∃ u', m_X8_row N (CH σ u R) 0 r l n = _ ∧ _
  unfold m_X8_row o_row
  rw [C_rv hN, rowAt_ok hN]
  simp only [Option.bind_some]
  by_cases c1 : 0 ≤ r ∧ r ≤ 7
  · obtain ⟨k, hk, rfl⟩ := i7 c1
    rw [if_pos c1, if_pos c1, nt_nI (by omega)]
    show ∃ u', (if l < 0 then some (-1000001, CH σ u R) else if 2 < l then some (-1000001, CH σ u R) else if n ≤ 40 then (if 0 ≤ n then (m_X5_begin N (CH σ u R) (35 + 2 * k) l n).bind fun r7 => (m_X8_well N r7 0 n).bind fun r8 => some (r8.1, r8.2) else (m_X8_found N (CH σ u R) 0 4).bind fun r9 => some (r9.1, r9.2)) else some (-1000001, CH σ u R)) = _ ∧ _
    by_cases c2 : 0 ≤ l ∧ l ≤ 2
    · have e1 : ¬ l < 0 := fun e => by have := c2.1; rw [Int32.le_iff_toInt_le] at this; rw [Int32.lt_iff_toInt_lt] at e; omega
      have e2 : ¬ 2 < l := fun e => by have := c2.2; rw [Int32.le_iff_toInt_le] at this; rw [Int32.lt_iff_toInt_lt] at e; omega
      rw [if_neg e1, if_neg e2, if_pos c2]
      by_cases c3 : n ≤ 40
      · rw [if_pos c3, if_pos c3]
        by_cases c4 : 0 ≤ n
        · obtain ⟨q, hq, rfl⟩ := ni_of (n := 40) (by omega) c4 (by rw [show nI 40 = 40 from rfl]; exact c3)
          rw [if_pos c4, if_pos c4]
          unfold m_X5_begin
          rw [R_rv hN hk]
          simp only [Option.bind_some]
          rw [R_p0 hN hk]
          simp only [Option.bind_some]
          rw [R_p1 hN hk, vup_s, vup_vup]
          simp only [Option.bind_some]
          rw [R_r2 hN hk]
          simp only [Option.bind_some]
          rw [fill_ok (show 36 + 2 * k < N by omega) (by omega) (I_at hk), CH_up (by omega) (fun j => if j < 40 then 0 else va_up u (35 + 2 * k) (upd (upd (u (35 + 2 * k)) 0 l) 1 (nI q)) (36 + 2 * k) j) (by rw [cItm hk])]
          simp only [Option.bind_some]
          rw [well_ok hN]
          refine ⟨_, rfl, ?_⟩
          rw [nt_nI (by omega)]
          refine h.rws (fun i g1 g2 => by rw [vup_n g1, vup_n (by omega), vup_n (by omega)]) ⟨by rw [vup_s, upd_s], by rw [vup_s, upd_n (by decide), vup_n (by omega), vup_n (by omega)]⟩ (fun i hi => ?_)
          obtain ⟨r1, r2, r3⟩ := h.1 i hi
          by_cases e : i = k
          · subst e
            have hl : ¬ l = -1 := fun e => by rw [e] at c2; exact absurd c2.1 (by decide +kernel)
            rw [vup_s, vup_s, vup_s, if_neg hl, vup_n (by omega), vup_n (by omega), vup_s, vup_n (by omega), vup_s]
            refine ⟨by rw [upd_n (by decide), upd_s], upd_s, fun j hj => by rw [if_pos hj]⟩
          · rw [vup_n e, vup_n e, vup_n e, vup_n (by omega), vup_n (by omega), vup_n (by omega), vup_n (by omega), vup_n (by omega), vup_n (by omega)]
            exact ⟨r1, r2, r3⟩
        · rw [if_neg c4, if_neg c4, found_ok hN]
          exact ⟨_, rfl, h.fnd 4⟩
      · rw [if_neg c3, if_neg c3]; exact ⟨u, rfl, h⟩
    · rw [if_neg c2]
      by_cases e1 : l < 0
      · rw [if_pos e1]; exact ⟨u, rfl, h⟩
      · have e2 : 2 < l := by
          by_cases e2 : 2 < l
          · exact e2
          · exact absurd ⟨by rw [Int32.le_iff_toInt_le]; rw [Int32.lt_iff_toInt_lt] at e1; omega, by rw [Int32.le_iff_toInt_le]; rw [Int32.lt_iff_toInt_lt] at e2; omega⟩ c2
        rw [if_neg e1, if_pos e2]; exact ⟨u, rfl, h⟩
  · rw [if_neg c1, if_neg c1]; exact ⟨u, rfl, h⟩
theorem co_drop (hN : 66 ≤ N) (h : RC u s) (r : Int32) : COp N u R (fun τ => m_X8_drop N τ 0 r) (o_drop s r).1 (o_drop s r).2 := by
  intro σ
  show ∃ u', m_X8_drop N (CH σ u R) 0 r = _ ∧ _
  unfold m_X8_drop o_drop
  rw [C_rv hN, rowAt_ok hN]
  simp only [Option.bind_some]
  by_cases c1 : 0 ≤ r ∧ r ≤ 7
  · obtain ⟨k, hk, rfl⟩ := i7 c1
    rw [if_pos c1, if_pos c1, nt_nI (by omega)]
    unfold cQ
    simp only []
    rw [missing_ok hN h hk]
    simp only [Option.bind_some]
    obtain ⟨r1, r2, r3⟩ := h.1 k hk
    by_cases c2 : s.lane k = -1
    · rw [if_pos c2, if_pos c2, if_neg (show ¬ (1 : Int32) = 0 by decide +kernel), found_ok hN]
      exact ⟨_, rfl, h.fnd 1⟩
    · rw [if_neg c2, if_neg c2, if_pos (show (0 : Int32) = 0 from rfl)]
      unfold m_X5_end
      rw [R_rv hN hk, R_i1 hN hk, r2, if_neg c2]
      simp only [Option.bind_some]
      rw [R_p0 hN hk]
      simp only [Option.bind_some]
      rw [R_p1 hN hk, vup_s, vup_vup]
      simp only [Option.bind_some]
      rw [well_ok hN]
      refine ⟨_, rfl, ?_⟩
      refine h.rws (fun i g1 g2 => by rw [vup_n g1, vup_n (by omega)]) ⟨by rw [vup_s, upd_s], by rw [vup_s, upd_n (by decide), vup_n (by omega)]⟩ (fun i hi => ?_)
      obtain ⟨q1, q2, q3⟩ := h.1 i hi
      by_cases e : i = k
      · subst e
        rw [vup_s, if_pos rfl, vup_n (by omega), vup_s, vup_n (by omega), vup_n (by omega)]
        exact ⟨by rw [upd_n (by decide), upd_s], upd_s, q3⟩
      · rw [vup_n e, vup_n (by omega), vup_n (by omega), vup_n (by omega), vup_n (by omega)]
        exact ⟨q1, q2, q3⟩
  · rw [if_neg c1, if_neg c1]; exact ⟨u, rfl, h⟩
theorem co_set (hN : 66 ≤ N) (h : RC u s) (hv : VA m s) (r i v : Int32) : COp N u R (fun τ => m_X8_set N τ 0 r i v) (o_set s r i v).1 (o_set s r i v).2 := by
  intro σ
  show ∃ u', m_X8_set N (CH σ u R) 0 r i v = _ ∧ _
  unfold m_X8_set o_set
  rw [C_rv hN, rowAt_ok hN]
  simp only [Option.bind_some]
  by_cases c1 : 0 ≤ r ∧ r ≤ 7
  · obtain ⟨k, hk, rfl⟩ := i7 c1
    rw [if_pos c1, if_pos c1, nt_nI (by omega)]
    unfold cQ
    simp only []
    rw [flaw_ok hN h hv hk]
    simp only [Option.bind_some]
    obtain ⟨r1, r2, r3⟩ := h.1 k hk
    have hs := (hv.1 k hk).2
    unfold wrg
    by_cases c2 : s.lane k = -1
    · rw [if_pos c2, if_pos c2, if_neg (show ¬ (1 : Int32) = 0 by decide +kernel), found_ok hN]
      exact ⟨_, rfl, h.fnd 1⟩
    · rw [if_neg c2, if_neg c2]
      have hw : wthB s k i 1 = true ↔ 0 ≤ i ∧ i < nI (s.size k) := by
        unfold wthB
        simp only [Bool.and_eq_true, decide_eq_true_eq]
        constructor
        · rintro ⟨⟨g1, _⟩, g3⟩
          refine ⟨g1, ?_⟩
          obtain ⟨x, hx, rfl⟩ := nI_of (x := i) (by rw [Int32.lt_iff_toInt_lt]; rw [Int32.le_iff_toInt_le] at g1; omega)
          rw [nt_nI hx, show nt 1 = 1 from by decide +kernel] at g3
          rw [nI_ltI hx (by omega)]; omega
        · rintro ⟨g1, g2⟩
          obtain ⟨x, hx, rfl⟩ := nI_of (x := i) (by rw [Int32.lt_iff_toInt_lt]; rw [Int32.le_iff_toInt_le] at g1; omega)
          rw [nI_ltI hx (by omega)] at g2
          refine ⟨⟨g1, by decide +kernel⟩, ?_⟩
          rw [nt_nI hx, show nt 1 = 1 from by decide +kernel]; omega
      by_cases c3 : 0 ≤ i ∧ i < nI (s.size k)
      · rw [hw.mpr c3, if_pos rfl, if_pos c3, if_pos (show (0 : Int32) = 0 from rfl)]
        obtain ⟨x, hx, rfl⟩ := nI_of (x := i) (by rw [Int32.lt_iff_toInt_lt]; have := c3.1; rw [Int32.le_iff_toInt_le] at this; omega)
        have hx2 := c3.2
        rw [nI_ltI hx (by omega)] at hx2
        unfold m_X5_store
        rw [R_rv hN hk, R_i0 hN hk, R_i1 hN hk, r1, r2, if_neg c2]
        simp only [Option.bind_some]
        have hcut : ((if s.lane k = 0 then some v.toInt8.toInt32 else if s.lane k = 1 then some v.toInt16.toInt32 else some v) : Option Int32) = some (cutv (s.lane k) v) := by
          unfold cutv
          split
          · rfl
          · split <;> rfl
        rw [hcut]
        simp only [Option.bind_some]
        rw [if_neg (nI_nlt0 hx), if_neg (nI_ge hx2 (by omega)), R_r2 hN hk]
        simp only [Option.bind_some]
        rw [I_s hN hk (by omega)]
        simp only [Option.bind_some]
        rw [well_ok hN, nt_nI hx]
        refine ⟨_, rfl, ?_⟩
        refine h.rws (fun i g1 g2 => by rw [vup_n g1, vup_n (by omega)]) ⟨by rw [vup_s, upd_s], by rw [vup_s, upd_n (by decide), vup_n (by omega)]⟩ (fun i hi => ?_)
        obtain ⟨q1, q2, q3⟩ := h.1 i hi
        by_cases e : i = k
        · subst e
          rw [vup_s, vup_n (by omega), vup_n (by omega), vup_n (by omega), vup_s]
          refine ⟨q1, q2, fun j hj => ?_⟩
          by_cases ej : j = x
          · subst ej; rw [upd_s, upd_s]
          · rw [upd_n ej, upd_n ej, q3 j hj]
        · rw [vup_n e, vup_n (by omega), vup_n (by omega), vup_n (by omega), vup_n (by omega)]
          exact ⟨q1, q2, q3⟩
      · have hwf : wthB s k i 1 = false := Bool.eq_false_iff.mpr (fun e => c3 (hw.mp e))
        rw [hwf, if_neg c3, if_neg (show ¬ (if false = true then (0 : Int32) else 2) = 0 by decide +kernel), found_ok hN]
        exact ⟨_, rfl, h.fnd 2⟩
  · rw [if_neg c1, if_neg c1]; exact ⟨u, rfl, h⟩
theorem co_copy (hN : 66 ≤ N) (h : RC u s) (hv : VA m s) (x i y j n : Int32) : COp N u R (fun τ => m_X8_copy N τ 0 x i y j n) (o_copy s x i y j n).1 (o_copy s x i y j n).2 := by
  intro σ
  show ∃ u', m_X8_copy N (CH σ u R) 0 x i y j n = _ ∧ _
  unfold m_X8_copy o_copy
  rw [C_rv hN, rowAt_ok hN, rowAt_ok hN]
  simp only [Option.bind_some]
  by_cases c1 : 0 ≤ x ∧ x ≤ 7
  · by_cases c1' : 0 ≤ y ∧ y ≤ 7
    · obtain ⟨p, hp, rfl⟩ := i7 c1
      obtain ⟨q, hq, rfl⟩ := i7 c1'
      rw [if_pos c1, if_pos c1', if_pos (show (0 ≤ nI p ∧ nI p ≤ 7) ∧ (0 ≤ nI q ∧ nI q ≤ 7) from ⟨c1, c1'⟩), nt_nI (by omega), nt_nI (by omega)]
      unfold cQ
      simp only []
      rw [missing_ok hN h hp, missing_ok hN h hq, R_i0 hN hp, R_i0 hN hq, (h.1 p hp).1, (h.1 q hq).1, flaw_ok hN h hv hp, flaw_ok hN h hv hq, R_r2 hN hp, R_r2 hN hq]
      simp only [Option.bind_some]
      by_cases c2 : s.lane p = -1
      · rw [if_pos c2, if_neg (show ¬ (1 : Int32) = 0 by decide +kernel), if_pos (show s.lane p = -1 ∨ s.lane q = -1 from Or.inl c2), found_ok hN]
        exact ⟨_, rfl, h.fnd 1⟩
      · rw [if_neg c2, if_pos (show (0 : Int32) = 0 from rfl)]
        by_cases c3 : s.lane q = -1
        · rw [if_pos c3, if_neg (show ¬ (1 : Int32) = 0 by decide +kernel), if_pos (show s.lane p = -1 ∨ s.lane q = -1 from Or.inr c3), found_ok hN]
          exact ⟨_, rfl, h.fnd 1⟩
        · rw [if_neg c3, if_pos (show (0 : Int32) = 0 from rfl), if_neg (show ¬ (s.lane p = -1 ∨ s.lane q = -1) from fun e => e.elim c2 c3)]
          by_cases c4 : s.lane p = s.lane q
          · rw [if_pos c4, if_pos c4]
            unfold wrg
            rw [if_neg c2, if_neg c3]
            cases w1 : wthB s p i n with
            | false =>
              rw [if_neg (show ¬ (if false = true then (0 : Int32) else 2) = 0 by decide +kernel), Bool.false_and, if_neg (show ¬ false = true by decide), found_ok hN]
              exact ⟨_, rfl, h.fnd 2⟩
            | true =>
              rw [if_pos (show (if true = true then (0 : Int32) else 2) = 0 from rfl), Bool.true_and]
              cases w2 : wthB s q j n with
              | false =>
                rw [if_neg (show ¬ (if false = true then (0 : Int32) else 2) = 0 by decide +kernel), if_neg (show ¬ false = true by decide), found_ok hN]
                exact ⟨_, rfl, h.fnd 2⟩
              | true =>
                rw [if_pos (show (if true = true then (0 : Int32) else 2) = 0 from rfl), if_pos (show true = true from rfl)]
                obtain ⟨a1, b1, rfl, rfl, g1, g2, g3⟩ := wth_le w1 (hv.1 p hp).2
                obtain ⟨a2, b2, rfl, e2, g4, g5, g6⟩ := wth_le w2 (hv.1 q hq).2
                have hb : b1 = b2 := (nI_eq (by omega) (by omega)).mp e2
                subst hb
                have s1 := (hv.1 p hp).2
                have s2 := (hv.1 q hq).2
                have hc : cpI N (CH σ u R) (36 + 2 * p) (nI a1) (36 + 2 * q) (nI a2) (nI b1) = some (va_up (CH σ u R) (36 + 2 * q) (.inl (0, 40, .inl (va_cpy (u (36 + 2 * p)) (u (36 + 2 * q)) a1 a2 b1)))) := by
                  unfold cpI
                  rw [if_pos (show 36 + 2 * p < N ∧ 36 + 2 * q < N by omega), I_at hp, I_at hq]
                  refine (if_pos ?_).trans ?_
                  rotate_left
                  · rw [nI_clamp (by omega), nI_clamp (by omega), nI_clamp (by omega)]
                  exact (show ((0 : Nat) = 0 ∧ (0 : Nat) = 0) ∧ (¬ nI a1 < 0 ∧ ¬ nI a2 < 0 ∧ ¬ nI b1 < 0) ∧ (nI a1).toNatClampNeg + (nI b1).toNatClampNeg ≤ 40 ∧ (nI a2).toNatClampNeg + (nI b1).toNatClampNeg ≤ 40 from ⟨⟨rfl, rfl⟩, ⟨nI_nlt0 (by omega), nI_nlt0 (by omega), nI_nlt0 (by omega)⟩, by rw [nI_clamp (by omega), nI_clamp (by omega)]; omega, by rw [nI_clamp (by omega), nI_clamp (by omega)]; omega⟩)
                rw [hc, CH_up (by omega) (va_cpy (u (36 + 2 * p)) (u (36 + 2 * q)) a1 a2 b1) (by rw [cItm hq])]
                simp only [Option.bind_some]
                rw [well_ok hN, nt_nI (by omega), nt_nI (by omega), nt_nI (by omega)]
                refine ⟨_, rfl, ?_⟩
                refine h.rws (fun i g1 g2 => by rw [vup_n g1, vup_n (by omega)]) ⟨by rw [vup_s, upd_s], by rw [vup_s, upd_n (by decide), vup_n (by omega)]⟩ (fun i hi => ?_)
                obtain ⟨q1, q2, q3⟩ := h.1 i hi
                by_cases e : i = q
                · subst e
                  rw [vup_s, vup_n (by omega), vup_n (by omega), vup_n (by omega), vup_s]
                  refine ⟨q1, q2, fun t ht => ?_⟩
                  unfold va_cpy
                  by_cases ct : a2 ≤ t ∧ t < a2 + b1
                  · rw [if_pos ct, if_pos ct, (h.1 p hp).2.2 _ (by omega)]
                  · rw [if_neg ct, if_neg ct, q3 t ht]
                · rw [vup_n e, vup_n (by omega), vup_n (by omega), vup_n (by omega), vup_n (by omega)]
                  exact ⟨q1, q2, q3⟩
          · rw [if_neg c4, if_neg c4, found_ok hN]
            exact ⟨_, rfl, h.fnd 5⟩
    · rw [if_pos c1, if_neg c1', if_neg (show ¬ ((0 ≤ x ∧ x ≤ 7) ∧ (0 ≤ y ∧ y ≤ 7)) from fun e => c1' e.2)]
      exact ⟨u, rfl, h⟩
  · rw [if_neg c1, if_neg (show ¬ ((0 ≤ x ∧ x ≤ 7) ∧ (0 ≤ y ∧ y ≤ 7)) from fun e => c1 e.1)]
    exact ⟨u, rfl, h⟩
theorem co_fault (hN : 66 ≤ N) (h : RC u s) : m_X8_fault N (CH σ u R) 0 = some s.flt := by
  unfold m_X8_fault
  rw [C_rv hN, C_i10 hN, h.2.2.2.1]; rfl
theorem co_status (hN : 66 ≤ N) (h : RC u s) : m_X8_status N (CH σ u R) 0 = some s.found := by
  unfold m_X8_status
  rw [C_rv hN, C_i11 hN, h.2.1]; rfl
end CRo
