/-! the reference: set, copy, drop, feed and small reads -/
theorem le_pred {x : Int32} {z : Nat} (hz : z < 2 ^ 30) : x ≤ nI z - 1 ↔ x < nI z := by
  have e : (nI z - 1).toInt = (z : Int) - 1 := by
    have := pk_sub_toInt (a := z) (b := 1) hz (by omega)
    rw [show nI 1 = 1 from rfl] at this
    exact this
  rw [Int32.le_iff_toInt_le, Int32.lt_iff_toInt_lt, e, nI_toInt (by omega)]
  omega
theorem in_pred (x : Int32) {z : Nat} (hz : z < 2 ^ 30) : m_X9_in x.toInt64 0 ((nI z - 1).toInt64) = some (if 0 ≤ x ∧ x < nI z then 1 else 0) := by
  rw [show (0 : Int64) = (0 : Int32).toInt64 by decide +kernel, i64_in]
  simp only [le_pred hz]
theorem lt_of {x : Int32} {z : Nat} (hz : z < 2 ^ 31) (h : 0 ≤ x ∧ x < nI z) : ∃ k, k < z ∧ x = nI k := by
  have h1 : x ≤ nI z := by rw [Int32.le_iff_toInt_le]; have := h.2; rw [Int32.lt_iff_toInt_lt] at this; omega
  obtain ⟨k, h2, rfl⟩ := ni_of hz h.1 h1
  refine ⟨k, ?_, rfl⟩
  exact (nI_ltI (by omega) hz).mp h.2
theorem cut_b (x : Int32) : (x <<< ((24 : Int32) &&& 31)) >>> ((24 : Int32) &&& 31) = x.toInt8.toInt32 := by
  apply Int32.toBitVec_inj.1
  rw [Int32.toBitVec_shiftRight, Int32.toBitVec_shiftLeft]
  show (x.toBitVec <<< (24 : Nat)).sshiftRight 24 = (x.toBitVec.signExtend 8).signExtend 32
  apply BitVec.eq_of_getLsbD_eq
  intro i hi
  rw [BitVec.getLsbD_sshiftRight, BitVec.getLsbD_signExtend]
  simp only [BitVec.getLsbD_shiftLeft, BitVec.msb_eq_getLsbD_last, BitVec.getLsbD_signExtend]
  have h32 : ¬ 32 ≤ i := by omega
  by_cases h : i < 8
  · have h24 : 24 + i < 32 := by omega
    simp [h, hi, h24, h32]
  · simp [h, hi, h32]
    intro q; omega
theorem cut_s (x : Int32) : (x <<< ((16 : Int32) &&& 31)) >>> ((16 : Int32) &&& 31) = x.toInt16.toInt32 := by
  apply Int32.toBitVec_inj.1
  rw [Int32.toBitVec_shiftRight, Int32.toBitVec_shiftLeft]
  show (x.toBitVec <<< (16 : Nat)).sshiftRight 16 = (x.toBitVec.signExtend 16).signExtend 32
  apply BitVec.eq_of_getLsbD_eq
  intro i hi
  rw [BitVec.getLsbD_sshiftRight, BitVec.getLsbD_signExtend]
  simp only [BitVec.getLsbD_shiftLeft, BitVec.msb_eq_getLsbD_last, BitVec.getLsbD_signExtend]
  have h32 : ¬ 32 ≤ i := by omega
  by_cases h : i < 16
  · have h24 : 16 + i < 32 := by omega
    simp [h, hi, h24, h32]
  · simp [h, hi, h32]
    intro q; omega
theorem cut_ok (l v : Int32) : m_X9_cut l v = some (cutv l v) := by
  unfold m_X9_cut cutv
  rw [cut_b, cut_s]
  split
  · rfl
  · split <;> rfl
theorem lane_nn {l : Int32} (h : l = -1 ∨ l = 0 ∨ l = 1 ∨ l = 2) : (0 ≤ l) ↔ l ≠ -1 := by
  rcases h with rfl | rfl | rfl | rfl <;> decide +kernel
theorem lane_ng {l : Int32} (h : l = -1 ∨ l = 0 ∨ l = 1 ∨ l = 2) : (l < 0) ↔ l = -1 := by
  rcases h with rfl | rfl | rfl | rfl <;> decide +kernel
section Rows2
variable {N m : Nat} {f : Nat → Int32} {a : Nat → Nat → Int32} {b : Nat → Nat → Int64} {s : AS}
theorem mo_set (hN : 66 ≤ N) (h : RM f a s) (hv : VA m s) (r i v : Int32) : MOp N f a b (fun σ => m_X9_set N σ 53 r i v) (o_set s r i v).1 (o_set s r i v).2 := by
  intro σ
  show ∃ f' a' b', m_X9_set N (MH σ f a b) 53 r i v = _ ∧ _
  unfold m_X9_set o_set
  rw [MH_rv hN, isRow_ok]
  simp only [Option.bind_some, ite10]
  by_cases c1 : 0 ≤ r ∧ r ≤ 7
  · obtain ⟨k, hk, rfl⟩ := i7 c1
    rw [if_pos c1, if_pos c1]
    obtain ⟨r1, r2, r3⟩ := h.1 k hk
    obtain ⟨v1, v2⟩ := hv.1 k hk
    simp only [MH_rv hN, MH_f3 hN, MH_f4 hN, MH_f6 hN, MH_f7 hN, MH_f8 hN, MH_f9 hN, MH_f11 hN, MH_f16 hN, MH_f19 hN, MH_f20 hN, MH_f21 hN, MH_f23 hN, MH_r0 hN, MH_r1 hN, MH_r2 hN, MH_r5 hN, MH_r10 hN, MH_r12 hN, MH_r13 hN, MH_r14 hN, MH_r15 hN, MH_r17 hN, MH_r18 hN, MH_r22 hN, Option.bind_some]
    rw [MH_a55 hN hk, nt_nI (by omega)]
    simp only [Option.bind_some]
    rw [r1]
    by_cases c2 : s.lane k = -1
    · rw [if_neg (by rw [lane_nn v1]; exact fun q => q c2), if_pos c2, finds_ok hN]
      exact ⟨_, a, b, rfl, h.fnd 1⟩
    · rw [if_pos ((lane_nn v1).mpr c2), if_neg c2, MH_a56 hN hk]
      simp only [Option.bind_some]
      rw [r2 c2, in_pred i (by omega)]
      simp only [Option.bind_some, ite10]
      by_cases c3 : 0 ≤ i ∧ i < nI (s.size k)
      · obtain ⟨j, hj, rfl⟩ := lt_of (by omega) c3
        rw [if_pos c3, if_pos c3, cut_ok]
        simp only [Option.bind_some]
        rw [show (40 : Int32) = nI 40 from rfl, pk_mul, nI_add, MH_s54 hN (by omega)]
        simp only [MH_rv hN, MH_f3 hN, MH_f4 hN, MH_f6 hN, MH_f7 hN, MH_f8 hN, MH_f9 hN, MH_f11 hN, MH_f16 hN, MH_f19 hN, MH_f20 hN, MH_f21 hN, MH_f23 hN, MH_r0 hN, MH_r1 hN, MH_r2 hN, MH_r5 hN, MH_r10 hN, MH_r12 hN, MH_r13 hN, MH_r14 hN, MH_r15 hN, MH_r17 hN, MH_r18 hN, MH_r22 hN, Option.bind_some]
        rw [MH_a54 hN (by omega)]
        simp only [Option.bind_some]
        rw [good_ok hN, vup_s, upd_s, nt_nI (by omega)]
        refine ⟨_, _, b, rfl, ?_⟩
        refine h.rws (fun i g1 g2 g3 => vup_n g1) (fun q hq => ?_)
        obtain ⟨q1, q2, q3⟩ := h.1 q hq
        refine ⟨by rw [vup_n (by decide)]; exact q1, fun hl => by rw [vup_n (by decide)]; exact q2 hl, fun t ht => ?_⟩
        rw [vup_s]
        by_cases e : q = k
        · subst e
          rw [vup_s]
          by_cases e2 : t = j
          · subst e2; rw [upd_s, upd_s]
          · rw [upd_n (by omega), upd_n e2, q3 t ht]
        · rw [upd_n (by omega), vup_n e, q3 t ht]
      · rw [if_neg c3, if_neg c3, finds_ok hN]
        exact ⟨_, a, b, rfl, h.fnd 2⟩
  · rw [if_neg c1, if_neg c1]; exact ⟨f, a, b, rfl, h⟩
theorem mo_drop (hN : 66 ≤ N) (h : RM f a s) (hv : VA m s) (r : Int32) : MOp N f a b (fun σ => m_X9_drop N σ 53 r) (o_drop s r).1 (o_drop s r).2 := by
  intro σ
  show ∃ f' a' b', m_X9_drop N (MH σ f a b) 53 r = _ ∧ _
  unfold m_X9_drop o_drop
  rw [MH_rv hN, isRow_ok]
  simp only [Option.bind_some, ite10]
  by_cases c1 : 0 ≤ r ∧ r ≤ 7
  · obtain ⟨k, hk, rfl⟩ := i7 c1
    rw [if_pos c1, if_pos c1]
    obtain ⟨r1, r2, r3⟩ := h.1 k hk
    obtain ⟨v1, v2⟩ := hv.1 k hk
    simp only [MH_rv hN, MH_f3 hN, MH_f4 hN, MH_f6 hN, MH_f7 hN, MH_f8 hN, MH_f9 hN, MH_f11 hN, MH_f16 hN, MH_f19 hN, MH_f20 hN, MH_f21 hN, MH_f23 hN, MH_r0 hN, MH_r1 hN, MH_r2 hN, MH_r5 hN, MH_r10 hN, MH_r12 hN, MH_r13 hN, MH_r14 hN, MH_r15 hN, MH_r17 hN, MH_r18 hN, MH_r22 hN, Option.bind_some]
    rw [MH_a55 hN hk, nt_nI (by omega)]
    simp only [Option.bind_some]
    rw [r1]
    by_cases c2 : s.lane k = -1
    · rw [if_neg (by rw [lane_nn v1]; exact fun q => q c2), if_pos c2, finds_ok hN]
      exact ⟨_, a, b, rfl, h.fnd 1⟩
    · rw [if_pos ((lane_nn v1).mpr c2), if_neg c2, MH_s55 hN hk]
      simp only [MH_rv hN, MH_f3 hN, MH_f4 hN, MH_f6 hN, MH_f7 hN, MH_f8 hN, MH_f9 hN, MH_f11 hN, MH_f16 hN, MH_f19 hN, MH_f20 hN, MH_f21 hN, MH_f23 hN, MH_r0 hN, MH_r1 hN, MH_r2 hN, MH_r5 hN, MH_r10 hN, MH_r12 hN, MH_r13 hN, MH_r14 hN, MH_r15 hN, MH_r17 hN, MH_r18 hN, MH_r22 hN, Option.bind_some]
      rw [MH_a56 hN hk]
      simp only [Option.bind_some]
      rw [good_ok hN, vup_n (by decide), r2 c2]
      refine ⟨_, _, b, rfl, h.rws (fun i g1 g2 g3 => vup_n g2) (fun q hq => ?_)⟩
      obtain ⟨q1, q2, q3⟩ := h.1 q hq
      refine ⟨?_, fun hl => ?_, fun t ht => by rw [vup_n (by decide)]; exact q3 t ht⟩
      · rw [vup_s]
        by_cases e : q = k
        · subst e; rw [upd_s, vup_s]
        · rw [upd_n e, vup_n e, q1]
      · rw [vup_n (by decide)]
        by_cases e : q = k
        · subst e; exact absurd vup_s hl
        · rw [vup_n e] at hl; exact q2 hl
  · rw [if_neg c1, if_neg c1]; exact ⟨f, a, b, rfl, h⟩
theorem sum64 {u v : Nat} (hu : u < 2 ^ 31) (hv : v < 2 ^ 31) : (nI u).toInt64 + (nI v).toInt64 = lN (u + v) := by rw [nI_l hu, nI_l hv, lN_add]
theorem nn_of {x : Int32} (h : ¬ x < 0) : 0 ≤ x := by
  rw [Int32.le_iff_toInt_le]; rw [Int32.lt_iff_toInt_lt] at h; omega
theorem isWithin_ok {σ : Hp} (hN : 66 ≤ N) (h : RM f a s) (hv : VA m s) {k : Nat} (hk : k < 8) (hl : s.lane k ≠ -1) (i n : Int32) : m_X9_isWithin N (MH σ f a b) 53 (nI k) i n = some (if wthB s k i n = true then 1 else 0) := by
  obtain ⟨r1, r2, r3⟩ := h.1 k hk
  obtain ⟨v1, v2⟩ := hv.1 k hk
  unfold m_X9_isWithin wthB
  simp only [MH_rv hN, MH_f3 hN, MH_f4 hN, MH_f6 hN, MH_f7 hN, MH_f8 hN, MH_f9 hN, MH_f11 hN, MH_f16 hN, MH_f19 hN, MH_f20 hN, MH_f21 hN, MH_f23 hN, MH_r0 hN, MH_r1 hN, MH_r2 hN, MH_r5 hN, MH_r10 hN, MH_r12 hN, MH_r13 hN, MH_r14 hN, MH_r15 hN, MH_r17 hN, MH_r18 hN, MH_r22 hN, Option.bind_some]
  by_cases c1 : i < 0
  · rw [if_pos c1, if_neg (by simp only [Bool.and_eq_true, decide_eq_true_eq]; rintro ⟨⟨h1, _⟩, _⟩; rw [Int32.le_iff_toInt_le] at h1; rw [Int32.lt_iff_toInt_lt] at c1; omega)]
  rw [if_neg c1]
  by_cases c2 : n < 0
  · rw [if_pos c2, if_neg (by simp only [Bool.and_eq_true, decide_eq_true_eq]; rintro ⟨⟨_, h1⟩, _⟩; rw [Int32.le_iff_toInt_le] at h1; rw [Int32.lt_iff_toInt_lt] at c2; omega)]
  rw [if_neg c2, MH_a56 hN hk]
  simp only [Option.bind_some]
  rw [r2 hl]
  obtain ⟨u, hu, rfl⟩ := nI_of c1
  obtain ⟨w, hw, rfl⟩ := nI_of c2
  rw [sum64 hu hw, nI_l (by omega)]
  have e : m_X9_in (lN (u + w)) 0 (lN (s.size k)) = some (if u + w ≤ s.size k then 1 else 0) := by
    unfold m_X9_in
    rw [show (0 : Int64) = lN 0 from rfl]
    simp only [lg_cmp_lt, lg_cmp_gt]
    rw [if_neg (by rw [pk_lLT (by omega) (by omega)]; omega)]
    by_cases c : u + w ≤ s.size k
    · rw [if_neg (by rw [pk_lLT (by omega) (by omega)]; omega), if_pos c]
    · rw [if_pos (by rw [pk_lLT (by omega) (by omega)]; omega), if_neg c]
  rw [e, nt_nI hu, nt_nI hw]
  simp only [Option.bind_some, ite10]
  have h0 : ∀ z, z < 2 ^ 31 → decide ((0 : Int32) ≤ nI z) = true := fun z hz => decide_eq_true (nI_pos' hz)
  rw [h0 u hu, h0 w hw]
  by_cases c : u + w ≤ s.size k
  · rw [if_pos c, if_pos (by simp [c])]
  · rw [if_neg c, if_neg (by simp [c])]
theorem wth_le {k : Nat} {i n : Int32} (h : wthB s k i n = true) (hs : s.size k ≤ 40) : ∃ u v, i = nI u ∧ n = nI v ∧ u + v ≤ s.size k ∧ u ≤ 40 ∧ v ≤ 40 := by
  unfold wthB at h
  simp only [Bool.and_eq_true, decide_eq_true_eq] at h
  obtain ⟨⟨h1, h2⟩, h3⟩ := h
  obtain ⟨u, hu, rfl⟩ := nI_of (x := i) (by rw [Int32.lt_iff_toInt_lt]; rw [Int32.le_iff_toInt_le] at h1; omega)
  obtain ⟨w, hw, rfl⟩ := nI_of (x := n) (by rw [Int32.lt_iff_toInt_lt]; rw [Int32.le_iff_toInt_le] at h2; omega)
  rw [nt_nI hu, nt_nI hw] at h3
  exact ⟨u, w, rfl, rfl, h3, by omega, by omega⟩
end Rows2
