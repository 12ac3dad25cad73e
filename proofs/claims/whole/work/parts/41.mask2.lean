section MK2
variable {N m : Nat} {f : Nat → Int32} {a : Nat → Nat → Int32} {b : Nat → Nat → Int64} {s : AS} {σ : Hp} {bd : AB} {d : Nat}
theorem glassSize_5 (hN : 66 ≤ N) (h : Dsc a bd d) (hV : VB m bd) (hk : bd.kd d = 5) {t : Nat} {g : Nat → Int32} (ht : t + 2 < 16) : m_X9_glassSize N (AH σ f a b t g) 53 (nI d) = some ((2 : Int32) * (nI d - 100), AH σ f a b (t + 3) (upd (upd (upd g t 14) (t + 1) 13) (t + 2) 10)) := by
  unfold m_X9_glassSize
  rw [AH_rv hN, AH_r hN]
  simp only [Option.bind_some]
  rw [kread hN h hV, hk]
  simp only [Option.bind_some]
  rw [if_pos (show nI 5 = 5 from rfl), body14_ok hN ht]
  rfl
theorem glassSize_4 (hN : 66 ≤ N) (h : Dsc a bd d) (hV : VB m bd) (hk : bd.kd d = 4) {t : Nat} {g : Nat → Int32} (ht : t + 1 < 16) : m_X9_glassSize N (AH σ f a b t g) 53 (nI d) = some (nI d - 100, AH σ f a b (t + 2) (upd (upd g t 13) (t + 1) 10)) := by
  unfold m_X9_glassSize
  rw [AH_rv hN, AH_r hN]
  simp only [Option.bind_some]
  rw [kread hN h hV, hk]
  simp only [Option.bind_some]
  rw [if_neg (show ¬ nI 4 = 5 by decide +kernel), body13_ok hN ht]
  rfl
theorem plainMark_1 (hN : 66 ≤ N) (h : Dsc a bd d) (hV : VB m bd) (hm : m < 2 ^ 30) (hk : bd.kd d = 1) {t : Nat} {g : Nat → Int32} (ht : t + 1 < 16) : m_X9_plainMark N (AH σ f a b t g) 53 (nI d) = some (nI (bd.pg d) + nI (bc (lset (stx bd) (bd.pg d) bd.D)), AH σ f a b (t + 2) (upd (upd g t 21) (t + 1) 20)) := by
  unfold m_X9_plainMark
  rw [AH_rv hN, AH_r hN]
  simp only [Option.bind_some]
  rw [kread hN h hV, hk]
  simp only [Option.bind_some]
  rw [if_neg (show ¬ nI 1 = 2 by decide +kernel), if_neg (show ¬ nI 1 = 3 by decide +kernel), body21_ok hN h hV hm ht]
  rfl
theorem plainMark_2 (hN : 66 ≤ N) (h : Dsc a bd d) (hV : VB m bd) (hm : m < 2 ^ 30) (hk : bd.kd d = 2) {t : Nat} {g : Nat → Int32} (ht : t + 2 < 16) : m_X9_plainMark N (AH σ f a b t g) 53 (nI d) = some ((2 : Int32) * (nI (bd.pg d) + nI (bc (lset (stx bd) (bd.pg d) bd.D))), AH σ f a b (t + 3) (upd (upd (upd g t 24) (t + 1) 21) (t + 2) 20)) := by
  unfold m_X9_plainMark
  rw [AH_rv hN, AH_r hN]
  simp only [Option.bind_some]
  rw [kread hN h hV, hk]
  simp only [Option.bind_some]
  rw [if_pos (show nI 2 = 2 from rfl), body24_ok hN h hV hm ht]
  rfl
theorem plainMark_3 (hN : 66 ≤ N) (h : Dsc a bd d) (hV : VB m bd) (hm : m < 2 ^ 30) (hk : bd.kd d = 3) {t : Nat} {g : Nat → Int32} (ht : t + 2 < 16) : m_X9_plainMark N (AH σ f a b t g) 53 (nI d) = some ((nI (bd.pg d) + nI (bc (lset (stx bd) (bd.pg d) bd.D))) - 1000, AH σ f a b (t + 3) (upd (upd (upd g t 22) (t + 1) 21) (t + 2) 20)) := by
  unfold m_X9_plainMark
  rw [AH_rv hN, AH_r hN]
  simp only [Option.bind_some]
  rw [kread hN h hV, hk]
  simp only [Option.bind_some]
  rw [if_neg (show ¬ nI 3 = 2 by decide +kernel), if_pos (show nI 3 = 3 from rfl), body22_ok hN h hV hm ht]
  rfl
theorem body11_k (hN : 66 ≤ N) {t : Nat} {g : Nat → Int32} (ht : t + 1 < 16) : m_X9_body11 N (AH σ f a b t g) 53 (nI d) = (m_X9_plainMark N (AH σ f a b (t + 2) (upd (upd g t 11) (t + 1) 10)) 53 (nI d)).bind fun r => some (nI d + r.1, r.2) := by
  unfold m_X9_body11
  rw [AH_rv hN, leaves_ok hN (by omega)]
  simp only [Option.bind_some]
  rw [body10_ok hN ht]
  rfl
theorem body12_k (hN : 66 ≤ N) {t : Nat} {g : Nat → Int32} (ht : t + 1 < 16) : m_X9_body12 N (AH σ f a b t g) 53 (nI d) = (m_X9_body11 N (AH σ f a b (t + 1) (upd g t 12)) 53 (nI d)).bind fun r => some (-r.1, r.2) := by
  unfold m_X9_body12
  rw [AH_rv hN, leaves_ok hN (by omega)]
  rfl
theorem body23_k (hN : 66 ≤ N) (h : Dsc a bd d) (hV : VB m bd) {t : Nat} {g : Nat → Int32} (ht : t + 1 < 16) : m_X9_body23 N (AH σ f a b t g) 53 (nI d) = (m_X9_glassSize N (AH σ f a b (t + 2) (upd (upd g t 23) (t + 1) 20)) 53 (nI d)).bind fun r => some (nI (bd.pg d) - r.1, r.2) := by
  unfold m_X9_body23
  rw [AH_rv hN, leaves_ok hN (by omega)]
  simp only [Option.bind_some]
  rw [body20_ok hN h hV ht]
  rfl
theorem in13 : ∀ k, k < 6 → m_X9_in (nI k).toInt64 1 3 = some (if 1 ≤ k ∧ k ≤ 3 then 1 else 0) := by decide +kernel
theorem mo_ask (hN : 66 ≤ N) (h : RM f a s) (hv : VA m s) (hm : m < 2 ^ 30) (d w : Int32) : MOp N f a b (fun σ => m_X9_ask N σ 53 d w) (o_ask s d w).1 (o_ask s d w).2 := by
  intro σ
  show ∃ f' a' b', m_X9_ask N (MH σ f a b) 53 d w = _ ∧ _
  have hV := hv.2.2.1
  obtain ⟨_, h6, _⟩ := hV.d4
  unfold m_X9_ask o_ask
  rw [MH_rv hN, isDisc_ok hN h hv]
  simp only [Option.bind_some, ite10]
  by_cases c1 : isD s d
  · obtain ⟨d, hd, rfl⟩ := lt_of (by omega) c1
    rw [if_pos c1, if_pos c1, show (0 : Int64) = (0 : Int32).toInt64 by decide +kernel, show (1 : Int64) = (1 : Int32).toInt64 by decide +kernel, i64_in]
    simp only [Option.bind_some, ite10]
    by_cases c2 : 0 ≤ w ∧ w ≤ 1
    · obtain ⟨w, hw, rfl⟩ := i1 c2
      have hD : Dsc a s.bd d := ⟨h.2.2.2.2.1, hd⟩
      have hkd : 1 ≤ s.bd.kd d ∧ s.bd.kd d ≤ 5 := by
        rcases hV with e | ⟨_, _, _, _, _, _, e, _⟩
        · rw [e] at hd; exact absurd hd (by show ¬ d < 0; omega)
        · exact ⟨(e d hd).1, (e d hd).2.1⟩
      rw [if_pos c2, if_pos c2, MH_put (j := 23) hN (by omega), nt_nI (by omega), nt_nI (by omega)]
      have e0 : MH σ (upd f 23 0) a b = AH σ f a b 0 (a 65) := by
        unfold AH
        congr 1
        funext i
        by_cases e : i = 65
        · subst e; rw [vup_s]
        · rw [vup_n e]
      rw [e0]
      simp only [Option.bind_some]
      rw [AH_r hN]
      simp only [Option.bind_some]
      rw [kread hN hD hV]
      simp only [Option.bind_some]
      rw [show ((1 : Int32).toInt64 : Int64) = 1 by decide +kernel, in13 _ (by omega)]
      simp only [Option.bind_some, ite10]
      rcases (show w = 0 ∨ w = 1 by omega) with rfl | rfl
      · rw [if_neg (show ¬ nI 0 = 1 by decide +kernel)]
        rcases (show s.bd.kd d = 1 ∨ s.bd.kd d = 2 ∨ s.bd.kd d = 3 ∨ s.bd.kd d = 4 ∨ s.bd.kd d = 5 by omega) with k | k | k | k | k
        · rw [k, if_pos (by decide), if_neg (show ¬ nI 1 = 2 by decide +kernel), body11_k hN (by omega), plainMark_1 hN hD hV hm k (by omega)]
          refine ⟨_, _, b, rfl, trc_RM h rfl ?_⟩
          intro j hj; match j, hj with | 0, _ => rfl | 1, _ => rfl | 2, _ => rfl | 3, _ => rfl | j + 4, hj => exact absurd hj (show ¬ j + 4 < 4 by omega)
        · rw [k, if_pos (by decide), if_pos (show nI 2 = 2 from rfl), body12_k hN (by omega), body11_k hN (by omega), plainMark_2 hN hD hV hm k (by omega)]
          refine ⟨_, _, b, rfl, trc_RM h rfl ?_⟩
          intro j hj; match j, hj with | 0, _ => rfl | 1, _ => rfl | 2, _ => rfl | 3, _ => rfl | 4, _ => rfl | 5, _ => rfl | j + 6, hj => exact absurd hj (show ¬ j + 6 < 6 by omega)
        · rw [k, if_pos (by decide), if_neg (show ¬ nI 3 = 2 by decide +kernel), body11_k hN (by omega), plainMark_3 hN hD hV hm k (by omega)]
          refine ⟨_, _, b, rfl, trc_RM h rfl ?_⟩
          intro j hj; match j, hj with | 0, _ => rfl | 1, _ => rfl | 2, _ => rfl | 3, _ => rfl | 4, _ => rfl | j + 5, hj => exact absurd hj (show ¬ j + 5 < 5 by omega)
        · rw [k, if_neg (by decide), glassSize_4 hN hD hV k (by omega)]
          refine ⟨_, _, b, rfl, trc_RM h rfl ?_⟩
          intro j hj; match j, hj with | 0, _ => rfl | 1, _ => rfl | j + 2, hj => exact absurd hj (show ¬ j + 2 < 2 by omega)
        · rw [k, if_neg (by decide), glassSize_5 hN hD hV k (by omega)]
          refine ⟨_, _, b, rfl, trc_RM h rfl ?_⟩
          intro j hj; match j, hj with | 0, _ => rfl | 1, _ => rfl | 2, _ => rfl | j + 3, hj => exact absurd hj (show ¬ j + 3 < 3 by omega)
      · rw [if_pos (show nI 1 = 1 from rfl)]
        rcases (show s.bd.kd d = 1 ∨ s.bd.kd d = 2 ∨ s.bd.kd d = 3 ∨ s.bd.kd d = 4 ∨ s.bd.kd d = 5 by omega) with k | k | k | k | k
        · rw [k, if_pos (by decide), plainMark_1 hN hD hV hm k (by omega)]
          refine ⟨_, _, b, rfl, trc_RM h rfl ?_⟩
          intro j hj; match j, hj with | 0, _ => rfl | 1, _ => rfl | j + 2, hj => exact absurd hj (show ¬ j + 2 < 2 by omega)
        · rw [k, if_pos (by decide), plainMark_2 hN hD hV hm k (by omega)]
          refine ⟨_, _, b, rfl, trc_RM h rfl ?_⟩
          intro j hj; match j, hj with | 0, _ => rfl | 1, _ => rfl | 2, _ => rfl | j + 3, hj => exact absurd hj (show ¬ j + 3 < 3 by omega)
        · rw [k, if_pos (by decide), plainMark_3 hN hD hV hm k (by omega)]
          refine ⟨_, _, b, rfl, trc_RM h rfl ?_⟩
          intro j hj; match j, hj with | 0, _ => rfl | 1, _ => rfl | 2, _ => rfl | j + 3, hj => exact absurd hj (show ¬ j + 3 < 3 by omega)
        · rw [k, if_neg (by decide), body23_k hN hD hV (by omega), glassSize_4 hN hD hV k (by omega)]
          refine ⟨_, _, b, rfl, trc_RM h rfl ?_⟩
          intro j hj; match j, hj with | 0, _ => rfl | 1, _ => rfl | 2, _ => rfl | 3, _ => rfl | j + 4, hj => exact absurd hj (show ¬ j + 4 < 4 by omega)
        · rw [k, if_neg (by decide), body23_k hN hD hV (by omega), glassSize_5 hN hD hV k (by omega)]
          refine ⟨_, _, b, rfl, trc_RM h rfl ?_⟩
          intro j hj; match j, hj with | 0, _ => rfl | 1, _ => rfl | 2, _ => rfl | 3, _ => rfl | 4, _ => rfl | j + 5, hj => exact absurd hj (show ¬ j + 5 < 5 by omega)
    · rw [if_neg c2, if_neg c2]; exact ⟨f, a, b, rfl, h⟩
  · rw [if_neg c1, if_neg c1]; exact ⟨f, a, b, rfl, h⟩
end MK2
