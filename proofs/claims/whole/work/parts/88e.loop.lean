/-! the law -/
theorem scA_ok {L : Nat} {xs : Nat → Int32} {i : Nat} (h : i < L) (hL : L ≤ 384) : scA L xs (nI i) = some (xs i) := by
  unfold scA
  rw [if_pos (in_k h (by omega)), nI_clamp (by omega)]
theorem vaM {m : Nat} {s : AS} (h : VA m s) : VA (m + 1) s := h.mono (Nat.le_succ m)
theorem lcmp_refl (x : Int64) : lg_cmp x x = 0 := by rw [lg_cmp_eq]
set_option maxHeartbeats 4000000 in
set_option maxRecDepth 100000 in
theorem law_loop {L : Nat} (hL : L ≤ 384) (xs : Nat → Int32) : ∀ (r t i N m c sl : Nat) (τ : Hp) (s : AS), L ≤ i + 6 * r → i = 6 * m → i ≤ 1000 → r < t → Inv N m τ s → c ≤ 100 + 9 * m → sl ≤ 50000 + 40986 * m → N ≤ 78 → (L_L_law_18 L xs 0 53 t N c sl τ (nI i)).isSome = true := by
  have hstop : ∀ (t i N c sl : Nat) (τ : Hp), i ≤ 10000 → L < i + 6 → (L_L_law_18 L xs 0 53 (t + 1) N c sl τ (nI i)).isSome = true := fun t i N c sl τ hi h => by
    rw [L_L_law_18.eq_2, if_pos (show nI L - 6 < nI i by rw [Int32.lt_iff_toInt_lt, show (6 : Int32) = nI 6 from rfl, i32_sub (by omega) (by omega), nI_toInt (by omega)]; omega)]
    rfl
  intro r
  induction r with
  | zero =>
    intro t i N m c sl τ s hr him hi1 ht hI hc hs hN78
    obtain ⟨t, rfl⟩ : ∃ k, t = k + 1 := ⟨t - 1, by omega⟩
    exact hstop t i N c sl τ (by omega) (by omega)
  | succ r ih =>
    intro t i N m c sl τ s hr him hi1 ht hI hc hs hN78
    obtain ⟨t, rfl⟩ : ∃ k, t = k + 1 := ⟨t - 1, by omega⟩
    by_cases hlt : L < i + 6
    · exact hstop t i N c sl τ (by omega) hlt
    have hv : VA m s := by obtain ⟨_, _, _, _, _, _, _, _, _, h, _⟩ := hI; exact h
    have hN : 66 ≤ N := by obtain ⟨_, _, _, _, _, _, _, _, _, _, h⟩ := hI; exact h.1
    have hHW : HW N τ := by obtain ⟨_, _, _, _, _, _, rfl, _, _, _, h⟩ := hI; exact DC.HW h
    rw [L_L_law_18.eq_2, if_neg (show ¬ nI L - 6 < nI i by rw [Int32.lt_iff_toInt_lt, show (6 : Int32) = nI 6 from rfl, i32_sub (by omega) (by omega), nI_toInt (by omega)]; omega)]
    rw [show nI i + 1 = nI (i + 1) from nI_add i 1, show nI i + 2 = nI (i + 2) from nI_add i 2, show nI i + 3 = nI (i + 3) from nI_add i 3, show nI i + 4 = nI (i + 4) from nI_add i 4, show nI i + 5 = nI (i + 5) from nI_add i 5, show nI i + 6 = nI (i + 6) from nI_add i 6, scA_ok (show i < L by omega) hL, scA_ok (show i + 1 < L by omega) hL, scA_ok (show i + 2 < L by omega) hL, scA_ok (show i + 3 < L by omega) hL, scA_ok (show i + 4 < L by omega) hL, scA_ok (show i + 5 < L by omega) hL]
    simp only [Option.bind_some]
    have go : ∀ (N' : Nat) (τ' : Hp) (s' : AS) (c' sl' : Nat), Inv N' (m + 1) τ' s' → c' ≤ c + 9 → sl' ≤ sl + 40986 → N' ≤ 78 → (L_L_law_18 L xs 0 53 t N' c' sl' τ' (nI (i + 6))).isSome = true := fun N' τ' s' c' sl' h1 h2 h3 h4 => ih t (i + 6) N' (m + 1) c' sl' τ' s' (by omega) (by omega) (by omega) (by omega) h1 (by omega) (by omega) h4
    have hals : ∀ k ms, k ≤ 9 → ms ≤ 40986 → al N τ [1000003, 0, 53] (c + k) (sl + ms) 600000 7302250 = some () := fun k ms hk hms => by
      unfold al
      rw [if_pos ⟨hHW, fun x hx => by
        simp only [List.mem_cons, List.not_mem_nil, or_false] at hx
        rcases hx with rfl | rfl | rfl
        · right; omega
        · left; omega
        · left; omega, by omega, by omega, by omega⟩]
    by_cases c0 : xs i &&& 31 = 0
    · rw [if_pos c0]
      obtain ⟨τ1, τ2, g1, g2, g3⟩ := st_CM (mc := fun τ => m_X8_row N τ 0 (xs (i + 1)) (xs (i + 2)) (xs (i + 3))) (mm := fun τ => m_X9_row N τ 53 (xs (i + 1)) (xs (i + 2)) (xs (i + 3))) hI (fun u R h => co_row hN h (xs (i + 1)) (xs (i + 2)) (xs (i + 3))) (fun f a b h => mo_row hN h (xs (i + 1)) (xs (i + 2)) (xs (i + 3))) (vaM (va_row hv (xs (i + 1)) (xs (i + 2)) (xs (i + 3))))
      rw [show m_X8_row N τ 0 (xs (i + 1)) (xs (i + 2)) (xs (i + 3)) = _ from g1]
      simp only [Option.bind_some]
      rw [show m_X9_row N τ1 53 (xs (i + 1)) (xs (i + 2)) (xs (i + 3)) = _ from g2]
      simp only [Option.bind_some, if_true]
      exact go N τ2 _ c sl g3 (by omega) (by omega) hN78
    rw [if_neg c0]
    by_cases c1 : xs i &&& 31 = 1
    · rw [if_pos c1]
      obtain ⟨τ1, τ2, g1, g2, g3⟩ := st_CM (mc := fun τ => m_X8_set N τ 0 (xs (i + 1)) (xs (i + 2)) (xs (i + 3))) (mm := fun τ => m_X9_set N τ 53 (xs (i + 1)) (xs (i + 2)) (xs (i + 3))) hI (fun u R h => co_set hN h hv (xs (i + 1)) (xs (i + 2)) (xs (i + 3))) (fun f a b h => mo_set hN h hv (xs (i + 1)) (xs (i + 2)) (xs (i + 3))) (vaM (va_set hv (xs (i + 1)) (xs (i + 2)) (xs (i + 3))))
      rw [show m_X8_set N τ 0 (xs (i + 1)) (xs (i + 2)) (xs (i + 3)) = _ from g1]
      simp only [Option.bind_some]
      rw [show m_X9_set N τ1 53 (xs (i + 1)) (xs (i + 2)) (xs (i + 3)) = _ from g2]
      simp only [Option.bind_some, if_true]
      exact go N τ2 _ c sl g3 (by omega) (by omega) hN78
    rw [if_neg c1]
    by_cases c2 : xs i &&& 31 = 2
    · rw [if_pos c2]
      obtain ⟨τ1, τ2, g1, g2, g3⟩ := st_CM (mc := fun τ => m_X8_copy N τ 0 (xs (i + 1)) (xs (i + 2)) (xs (i + 3)) (xs (i + 4)) (xs (i + 5))) (mm := fun τ => m_X9_copy N τ 53 (xs (i + 1)) (xs (i + 2)) (xs (i + 3)) (xs (i + 4)) (xs (i + 5))) hI (fun u R h => co_copy hN h hv (xs (i + 1)) (xs (i + 2)) (xs (i + 3)) (xs (i + 4)) (xs (i + 5))) (fun f a b h => mo_copy hN h hv (xs (i + 1)) (xs (i + 2)) (xs (i + 3)) (xs (i + 4)) (xs (i + 5))) (vaM (va_copy hv (xs (i + 1)) (xs (i + 2)) (xs (i + 3)) (xs (i + 4)) (xs (i + 5))))
      rw [show m_X8_copy N τ 0 (xs (i + 1)) (xs (i + 2)) (xs (i + 3)) (xs (i + 4)) (xs (i + 5)) = _ from g1]
      simp only [Option.bind_some]
      rw [show m_X9_copy N τ1 53 (xs (i + 1)) (xs (i + 2)) (xs (i + 3)) (xs (i + 4)) (xs (i + 5)) = _ from g2]
      simp only [Option.bind_some, if_true]
      exact go N τ2 _ c sl g3 (by omega) (by omega) hN78
    rw [if_neg c2]
    by_cases c3 : xs i &&& 31 = 3
    · rw [if_pos c3]
      obtain ⟨τ1, τ2, g1, g2, g3⟩ := st_CM (mc := fun τ => m_X8_drop N τ 0 (xs (i + 1))) (mm := fun τ => m_X9_drop N τ 53 (xs (i + 1))) hI (fun u R h => co_drop hN h (xs (i + 1))) (fun f a b h => mo_drop hN h hv (xs (i + 1))) (vaM (va_drop hv (xs (i + 1))))
      rw [show m_X8_drop N τ 0 (xs (i + 1)) = _ from g1]
      simp only [Option.bind_some]
      rw [show m_X9_drop N τ1 53 (xs (i + 1)) = _ from g2]
      simp only [Option.bind_some, if_true]
      exact go N τ2 _ c sl g3 (by omega) (by omega) hN78
    rw [if_neg c3]
    by_cases c4 : xs i &&& 31 = 4
    · rw [if_pos c4]
      obtain ⟨τ1, τ2, g1, g2, g3⟩ := st_CM (mc := fun τ => m_X8_feed N τ 0 (xs (i + 1))) (mm := fun τ => m_X9_feed N τ 53 (xs (i + 1))) hI (fun u R h => co_feed hN h hv (xs (i + 1))) (fun f a b h => mo_feed hN h hv (xs (i + 1))) (vaM (va_feed hv (xs (i + 1))))
      rw [show m_X8_feed N τ 0 (xs (i + 1)) = _ from g1]
      simp only [Option.bind_some]
      rw [show m_X9_feed N τ1 53 (xs (i + 1)) = _ from g2]
      simp only [Option.bind_some, if_true]
      exact go N τ2 _ c sl g3 (by omega) (by omega) hN78
    rw [if_neg c4]
    by_cases c5 : xs i &&& 31 = 5
    · rw [if_pos c5]
      obtain ⟨τ1, τ2, g1, g2, g3⟩ := st_CM (mc := fun τ => m_X8_board N τ 0) (mm := fun τ => m_X9_board N τ 53) hI (fun u R h => co_board hN h hv) (fun f a b h => mo_board hN h hv) (vaM (va_board hv))
      rw [show m_X8_board N τ 0 = _ from g1]
      simp only [Option.bind_some]
      rw [show m_X9_board N τ1 53 = _ from g2]
      simp only [Option.bind_some, if_true]
      exact go N τ2 _ c sl g3 (by omega) (by omega) hN78
    rw [if_neg c5]
    by_cases c6 : xs i &&& 31 = 6
    · rw [if_pos c6]
      obtain ⟨g1, g2, g3⟩ := st_vv (mc := fun τ => m_X8_fault N τ 0) (mm := fun τ => m_X9_fault N τ 53) hI (fun σ u R h => co_fault hN h) (fun σ f a b h => mo_fault hN h)
      rw [show m_X8_fault N τ 0 = _ from g1, show m_X9_fault N τ 53 = _ from g2]
      simp only [Option.bind_some, if_true]
      exact go N τ _ c sl g3 (by omega) (by omega) hN78
    rw [if_neg c6]
    by_cases c7 : xs i &&& 31 = 7
    · rw [if_pos c7]
      obtain ⟨τ1, τ2, g1, g2, g3⟩ := st_CM (mc := fun τ => m_X8_move N τ 0 (xs (i + 1)) (xs (i + 2))) (mm := fun τ => m_X9_move N τ 53 (xs (i + 1)) (xs (i + 2))) hI (fun u R h => co_move hN h hv (by omega) (xs (i + 1)) (xs (i + 2))) (fun f a b h => mo_move hN h hv (by omega) (xs (i + 1)) (xs (i + 2))) (va_move hv (xs (i + 1)) (xs (i + 2)))
      rw [show m_X8_move N τ 0 (xs (i + 1)) (xs (i + 2)) = _ from g1]
      simp only [Option.bind_some]
      rw [show m_X9_move N τ1 53 (xs (i + 1)) (xs (i + 2)) = _ from g2]
      simp only [Option.bind_some, if_true]
      exact go N τ2 _ c sl g3 (by omega) (by omega) hN78
    rw [if_neg c7]
    by_cases c8 : xs i &&& 31 = 8
    · rw [if_pos c8]
      obtain ⟨τ1, τ2, g1, g2, g3⟩ := st_CM (mc := fun τ => m_X8_put N τ 0 (xs (i + 1)) (xs (i + 2))) (mm := fun τ => m_X9_put N τ 53 (xs (i + 1)) (xs (i + 2))) hI (fun u R h => co_put hN h hv (xs (i + 1)) (xs (i + 2))) (fun f a b h => mo_put hN h hv (xs (i + 1)) (xs (i + 2))) (vap_put hv (xs (i + 1)) (xs (i + 2)))
      rw [show m_X8_put N τ 0 (xs (i + 1)) (xs (i + 2)) = _ from g1]
      simp only [Option.bind_some]
      rw [show m_X9_put N τ1 53 (xs (i + 1)) (xs (i + 2)) = _ from g2]
      simp only [Option.bind_some, if_true]
      exact go N τ2 _ c sl g3 (by omega) (by omega) hN78
    rw [if_neg c8]
    by_cases c9 : xs i &&& 31 = 9
    · rw [if_pos c9]
      obtain ⟨τ1, τ2, g1, g2, g3⟩ := st_CM (mc := fun τ => m_X8_high N τ 0 (xs (i + 1))) (mm := fun τ => m_X9_high N τ 53 (xs (i + 1))) hI (fun u R h => co_high hN h hv (xs (i + 1))) (fun f a b h => mo_high hN h hv (xs (i + 1))) (va_high hv (xs (i + 1)))
      rw [show m_X8_high N τ 0 (xs (i + 1)) = _ from g1]
      simp only [Option.bind_some]
      rw [show m_X9_high N τ1 53 (xs (i + 1)) = _ from g2]
      simp only [Option.bind_some, if_true]
      exact go N τ2 _ c sl g3 (by omega) (by omega) hN78
    rw [if_neg c9]
    by_cases c10 : xs i &&& 31 = 10
    · rw [if_pos c10]
      obtain ⟨τ1, τ2, g1, g2, g3⟩ := st_CM (mc := fun τ => m_X8_undo N τ 0) (mm := fun τ => m_X9_undo N τ 53) hI (fun u R h => co_undo hN h hv) (fun f a b h => mo_undo hN h hv) (va_undo hv)
      rw [show m_X8_undo N τ 0 = _ from g1]
      simp only [Option.bind_some]
      rw [show m_X9_undo N τ1 53 = _ from g2]
      simp only [Option.bind_some, if_true]
      exact go N τ2 _ c sl g3 (by omega) (by omega) hN78
    rw [if_neg c10]
    by_cases c11 : xs i &&& 31 = 11
    · rw [if_pos c11]
      obtain ⟨τ2, g1, g2, g3⟩ := st_vM (mc := fun τ => m_X8_disc N τ 0 (xs (i + 1)) (xs (i + 2))) (mm := fun τ => m_X9_disc N τ 53 (xs (i + 1)) (xs (i + 2))) hI (fun σ u R h => co_disc hN h hv (by omega) (xs (i + 1)) (xs (i + 2))) (fun f a b h => mo_disc hN h hv (by omega) (xs (i + 1)) (xs (i + 2)))
      rw [show m_X8_disc N τ 0 (xs (i + 1)) (xs (i + 2)) = _ from g1, show m_X9_disc N τ 53 (xs (i + 1)) (xs (i + 2)) = _ from g2]
      simp only [Option.bind_some, if_true]
      exact go N τ2 _ c sl g3 (by omega) (by omega) hN78
    rw [if_neg c11]
    by_cases c12 : xs i &&& 31 = 12
    · rw [if_pos c12]
      obtain ⟨g1, g2, g3⟩ := st_vv (mc := fun τ => m_X8_peg N τ 0 (xs (i + 1)) (xs (i + 2))) (mm := fun τ => m_X9_peg N τ 53 (xs (i + 1)) (xs (i + 2))) hI (fun σ u R h => co_peg hN h hv (xs (i + 1)) (xs (i + 2))) (fun σ f a b h => mo_peg hN h hv (by omega) (xs (i + 1)) (xs (i + 2)))
      rw [show m_X8_peg N τ 0 (xs (i + 1)) (xs (i + 2)) = _ from g1, show m_X9_peg N τ 53 (xs (i + 1)) (xs (i + 2)) = _ from g2]
      simp only [Option.bind_some, if_true]
      exact go N τ _ c sl g3 (by omega) (by omega) hN78
    rw [if_neg c12]
    by_cases c13 : xs i &&& 31 = 13
    · rw [if_pos c13]
      obtain ⟨τ2, g1, g2, g3⟩ := st_vM (mc := fun τ => m_X8_can N τ 0) (mm := fun τ => m_X9_can N τ 53) hI (fun σ u R h => co_can hN h hv (by omega)) (fun f a b h => mo_can hN h hv (by omega))
      rw [show m_X8_can N τ 0 = _ from g1, show m_X9_can N τ 53 = _ from g2]
      simp only [Option.bind_some, if_true]
      exact go N τ2 _ c sl g3 (by omega) (by omega) hN78
    rw [if_neg c13]
    by_cases c14 : xs i &&& 31 = 14
    · rw [if_pos c14]
      rw [hals 9 40986 (by omega) (by omega)]
      simp only [Option.bind_some]
      obtain ⟨N', τ1, τ2, g1, g2, g3, g4⟩ := st_AM (mc := fun τ => m_X8_least N τ 0 (xs (i + 1)) (xs (i + 2)) (xs (i + 3))) (mm := fun N τ => m_X9_least N τ 53 (xs (i + 1)) (xs (i + 2)) (xs (i + 3))) hI (fun σ u R h hd => co_least h hv hd (by omega) (xs (i + 1)) (xs (i + 2)) (xs (i + 3))) (fun N f a b hN h => mo_least hN h hv (by omega) (xs (i + 1)) (xs (i + 2)) (xs (i + 3))) (vaM (va_least hv (xs (i + 1)) (xs (i + 2)) (xs (i + 3))))
      rw [show m_X8_least N τ 0 (xs (i + 1)) (xs (i + 2)) (xs (i + 3)) = _ from g1]
      simp only [Option.bind_some]
      rw [nb_ok (by omega)]
      simp only [Option.bind_some]
      rw [show m_X9_least N' τ1 53 (xs (i + 1)) (xs (i + 2)) (xs (i + 3)) = _ from g2]
      simp only [Option.bind_some, if_true]
      exact go N' τ2 _ (c + 9) (sl + 40986) g3 (by omega) (by omega) g4
    rw [if_neg c14]
    by_cases c15 : xs i &&& 31 = 15
    · rw [if_pos c15]
      rw [hals 9 40986 (by omega) (by omega)]
      simp only [Option.bind_some]
      obtain ⟨N', τ1, τ2, g1, g2, g3, g4⟩ := st_AM (mc := fun τ => m_X8_tower N τ 0 (xs (i + 1)) (xs (i + 2))) (mm := fun N τ => m_X9_tower N τ 53 (xs (i + 1)) (xs (i + 2))) hI (fun σ u R h hd => co_tower h hv hd (by omega) (xs (i + 1)) (xs (i + 2))) (fun N f a b hN h => mo_tower hN h hv (by omega) (xs (i + 1)) (xs (i + 2))) (vaM hv)
      rw [show m_X8_tower N τ 0 (xs (i + 1)) (xs (i + 2)) = _ from g1]
      simp only [Option.bind_some]
      rw [nb_ok (by omega)]
      simp only [Option.bind_some]
      rw [show m_X9_tower N' τ1 53 (xs (i + 1)) (xs (i + 2)) = _ from g2]
      simp only [Option.bind_some, if_true]
      exact go N' τ2 _ (c + 9) (sl + 40986) g3 (by omega) (by omega) g4
    rw [if_neg c15]
    by_cases c16 : xs i &&& 31 = 16
    · rw [if_pos c16]
      rw [hals 9 40986 (by omega) (by omega)]
      simp only [Option.bind_some]
      obtain ⟨N', τ1, τ2, g1, g2, g3, g4⟩ := st_AM (mc := fun τ => m_X8_world N τ 0 (xs (i + 1))) (mm := fun N τ => m_X9_world N τ 53 (xs (i + 1))) hI (fun σ u R h hd => co_world h hv hd (by omega) (xs (i + 1))) (fun N f a b hN h => mo_world hN h hv (by omega) (xs (i + 1))) (vaM hv)
      rw [show m_X8_world N τ 0 (xs (i + 1)) = _ from g1]
      simp only [Option.bind_some]
      rw [nb_ok (by omega)]
      simp only [Option.bind_some]
      rw [show m_X9_world N' τ1 53 (xs (i + 1)) = _ from g2]
      simp only [Option.bind_some, if_true]
      exact go N' τ2 _ (c + 9) (sl + 40986) g3 (by omega) (by omega) g4
    rw [if_neg c16]
    by_cases c17 : xs i &&& 31 = 17
    · rw [if_pos c17]
      rw [hals 9 40986 (by omega) (by omega)]
      simp only [Option.bind_some]
      obtain ⟨N', τ1, τ2, g1, g2, g3, g4⟩ := st_AM (mc := fun τ => m_X8_ring N τ 0) (mm := fun N τ => m_X9_ring N τ 53) hI (fun σ u R h hd => co_ring h hv hd (by omega)) (fun N f a b hN h => mo_ring hN h hv (by omega)) (vaM hv)
      rw [show m_X8_ring N τ 0 = _ from g1]
      simp only [Option.bind_some]
      rw [nb_ok (by omega)]
      simp only [Option.bind_some]
      rw [show m_X9_ring N' τ1 53 = _ from g2]
      simp only [Option.bind_some, if_true]
      exact go N' τ2 _ (c + 9) (sl + 40986) g3 (by omega) (by omega) g4
    rw [if_neg c17]
    by_cases c18 : xs i &&& 31 = 18
    · rw [if_pos c18]
      rw [hals 6 16397 (by omega) (by omega)]
      simp only [Option.bind_some]
      obtain ⟨N', τ1, τ2, g1, g2, g3, g4⟩ := st_JM (mc := fun τ => m_X8_ways N τ 0 (xs (i + 1)) (xs (i + 2)) (xs (i + 3))) (mm := fun N τ => m_X9_ways N τ 53 (xs (i + 1)) (xs (i + 2)) (xs (i + 3))) hI (fun σ u R h hd => co_ways h hv hd (by omega) (xs (i + 1)) (xs (i + 2)) (xs (i + 3))) (fun N f a b hN h => mo_ways hN h hv (by omega) (xs (i + 1)) (xs (i + 2)) (xs (i + 3))) (vaM (va_ways hv (xs (i + 1)) (xs (i + 2)) (xs (i + 3))))
      rw [show m_X8_ways N τ 0 (xs (i + 1)) (xs (i + 2)) (xs (i + 3)) = _ from g1]
      simp only [Option.bind_some]
      rw [nb_ok (by omega)]
      simp only [Option.bind_some]
      rw [show m_X9_ways N' τ1 53 (xs (i + 1)) (xs (i + 2)) (xs (i + 3)) = _ from g2]
      simp only [Option.bind_some]
      rw [if_pos (lcmp_refl _)]
      exact go N' τ2 _ (c + 6) (sl + 16397) g3 (by omega) (by omega) g4
    rw [if_neg c18]
    by_cases c19 : xs i &&& 31 = 19
    · rw [if_pos c19]
      obtain ⟨τ1, τ2, g1, g2, g3⟩ := st_CM (mc := fun τ => m_X8_judge N τ 0 (xs (i + 1)) (xs (i + 2)) (xs (i + 3))) (mm := fun τ => m_X9_judge N τ 53 (xs (i + 1)) (xs (i + 2)) (xs (i + 3))) hI (fun u R h => co_judge hN h hv (by omega) (xs (i + 1)) (xs (i + 2)) (xs (i + 3))) (fun f a b h => mo_judge hN h hv (by omega) (xs (i + 1)) (xs (i + 2)) (xs (i + 3))) (vaM (va_judge hv (xs (i + 1)) (xs (i + 2)) (xs (i + 3))))
      rw [show m_X8_judge N τ 0 (xs (i + 1)) (xs (i + 2)) (xs (i + 3)) = _ from g1]
      simp only [Option.bind_some]
      rw [show m_X9_judge N τ1 53 (xs (i + 1)) (xs (i + 2)) (xs (i + 3)) = _ from g2]
      simp only [Option.bind_some, if_true]
      exact go N τ2 _ c sl g3 (by omega) (by omega) hN78
    rw [if_neg c19]
    by_cases c20 : xs i &&& 31 = 20
    · rw [if_pos c20]
      obtain ⟨τ1, τ2, g1, g2, g3⟩ := st_CM (mc := fun τ => m_X8_fits N τ 0 (xs (i + 1)) (xs (i + 2)) (xs (i + 3)) (xs (i + 4)) (xs (i + 5))) (mm := fun τ => m_X9_fits N τ 53 (xs (i + 1)) (xs (i + 2)) (xs (i + 3)) (xs (i + 4)) (xs (i + 5))) hI (fun u R h => co_fits hN h hv (by omega) (xs (i + 1)) (xs (i + 2)) (xs (i + 3)) (xs (i + 4)) (xs (i + 5))) (fun f a b h => mo_fits hN h hv (by omega) (xs (i + 1)) (xs (i + 2)) (xs (i + 3)) (xs (i + 4)) (xs (i + 5))) (vaM (va_fits hv (xs (i + 1)) (xs (i + 2)) (xs (i + 3)) (xs (i + 4)) (xs (i + 5))))
      rw [show m_X8_fits N τ 0 (xs (i + 1)) (xs (i + 2)) (xs (i + 3)) (xs (i + 4)) (xs (i + 5)) = _ from g1]
      simp only [Option.bind_some]
      rw [show m_X9_fits N τ1 53 (xs (i + 1)) (xs (i + 2)) (xs (i + 3)) (xs (i + 4)) (xs (i + 5)) = _ from g2]
      simp only [Option.bind_some, if_true]
      exact go N τ2 _ c sl g3 (by omega) (by omega) hN78
    rw [if_neg c20]
    by_cases c21 : xs i &&& 31 = 21
    · rw [if_pos c21]
      rw [hals 6 16397 (by omega) (by omega)]
      simp only [Option.bind_some]
      obtain ⟨N', τ1, τ2, g1, g2, g3, g4⟩ := st_JM (mc := fun τ => m_X8_chance N τ 0 (xs (i + 1)) (xs (i + 2)) (xs (i + 3)) (xs (i + 4))) (mm := fun N τ => m_X9_chance N τ 53 (xs (i + 1)) (xs (i + 2)) (xs (i + 3)) (xs (i + 4))) hI (fun σ u R h hd => co_chance h hv hd (by omega) (xs (i + 1)) (xs (i + 2)) (xs (i + 3)) (xs (i + 4))) (fun N f a b hN h => mo_chance hN h hv (by omega) (xs (i + 1)) (xs (i + 2)) (xs (i + 3)) (xs (i + 4))) (vaM hv)
      rw [show m_X8_chance N τ 0 (xs (i + 1)) (xs (i + 2)) (xs (i + 3)) (xs (i + 4)) = _ from g1]
      simp only [Option.bind_some]
      rw [nb_ok (by omega)]
      simp only [Option.bind_some]
      rw [show m_X9_chance N' τ1 53 (xs (i + 1)) (xs (i + 2)) (xs (i + 3)) (xs (i + 4)) = _ from g2]
      simp only [Option.bind_some]
      rw [if_pos (lcmp_refl _)]
      exact go N' τ2 _ (c + 6) (sl + 16397) g3 (by omega) (by omega) g4
    rw [if_neg c21]
    by_cases c22 : xs i &&& 31 = 22
    · rw [if_pos c22]
      obtain ⟨τ1, τ2, g1, g2, g3⟩ := st_CM (mc := fun τ => m_X8_drawn N τ 0 (xs (i + 1)) (xs (i + 2)) (xs (i + 3))) (mm := fun τ => m_X9_drawn N τ 53 (xs (i + 1)) (xs (i + 2)) (xs (i + 3))) hI (fun u R h => co_drawn hN h hv (by omega) (xs (i + 1)) (xs (i + 2)) (xs (i + 3))) (fun f a b h => mo_drawn hN h hv (by omega) (xs (i + 1)) (xs (i + 2)) (xs (i + 3))) (vaM hv)
      rw [show m_X8_drawn N τ 0 (xs (i + 1)) (xs (i + 2)) (xs (i + 3)) = _ from g1]
      simp only [Option.bind_some]
      rw [show m_X9_drawn N τ1 53 (xs (i + 1)) (xs (i + 2)) (xs (i + 3)) = _ from g2]
      simp only [Option.bind_some, if_true]
      exact go N τ2 _ c sl g3 (by omega) (by omega) hN78
    rw [if_neg c22]
    by_cases c23 : xs i &&& 31 = 23
    · rw [if_pos c23]
      obtain ⟨τ1, τ2, g1, g2, g3⟩ := st_CM (mc := fun τ => m_X8_image N τ 0 (xs (i + 1))) (mm := fun τ => m_X9_image N τ 53 (xs (i + 1))) hI (fun u R h => co_image hN h hv (xs (i + 1))) (fun f a b h => mo_image hN h hv (xs (i + 1))) (vaM (va_image hv (xs (i + 1))))
      rw [show m_X8_image N τ 0 (xs (i + 1)) = _ from g1]
      simp only [Option.bind_some]
      rw [show m_X9_image N τ1 53 (xs (i + 1)) = _ from g2]
      simp only [Option.bind_some, if_true]
      exact go N τ2 _ c sl g3 (by omega) (by omega) hN78
    rw [if_neg c23]
    by_cases c24 : xs i &&& 31 = 24
    · rw [if_pos c24]
      obtain ⟨τ1, τ2, g1, g2, g3⟩ := st_CM (mc := fun τ => m_X8_restore N τ 0 (xs (i + 1))) (mm := fun τ => m_X9_restore N τ 53 (xs (i + 1))) hI (fun u R h => co_restore hN h hv (xs (i + 1))) (fun f a b h => mo_restore hN h hv (xs (i + 1))) (va_restore hv (xs (i + 1)))
      rw [show m_X8_restore N τ 0 (xs (i + 1)) = _ from g1]
      simp only [Option.bind_some]
      rw [show m_X9_restore N τ1 53 (xs (i + 1)) = _ from g2]
      simp only [Option.bind_some, if_true]
      exact go N τ2 _ c sl g3 (by omega) (by omega) hN78
    rw [if_neg c24]
    by_cases c25 : xs i &&& 31 = 25
    · rw [if_pos c25]
      obtain ⟨g1, g2, g3⟩ := st_vv (mc := fun τ => m_X8_kind N τ 0 (xs (i + 1))) (mm := fun τ => m_X9_kind N τ 53 (xs (i + 1))) hI (fun σ u R h => co_kind hN h hv (xs (i + 1))) (fun σ f a b h => mo_kind hN h hv (xs (i + 1)))
      rw [show m_X8_kind N τ 0 (xs (i + 1)) = _ from g1, show m_X9_kind N τ 53 (xs (i + 1)) = _ from g2]
      simp only [Option.bind_some, if_true]
      exact go N τ _ c sl g3 (by omega) (by omega) hN78
    rw [if_neg c25]
    by_cases c26 : xs i &&& 31 = 26
    · rw [if_pos c26]
      obtain ⟨τ1, τ2, g1, g2, g3⟩ := st_CM (mc := fun τ => m_X8_as N τ 0 (xs (i + 1)) (xs (i + 2))) (mm := fun τ => m_X9_as N τ 53 (xs (i + 1)) (xs (i + 2))) hI (fun u R h => co_as hN h hv (xs (i + 1)) (xs (i + 2))) (fun f a b h => mo_as hN h hv (xs (i + 1)) (xs (i + 2))) (vaM (va_as hv (xs (i + 1)) (xs (i + 2))))
      rw [show m_X8_as N τ 0 (xs (i + 1)) (xs (i + 2)) = _ from g1]
      simp only [Option.bind_some]
      rw [show m_X9_as N τ1 53 (xs (i + 1)) (xs (i + 2)) = _ from g2]
      simp only [Option.bind_some, if_true]
      exact go N τ2 _ c sl g3 (by omega) (by omega) hN78
    rw [if_neg c26]
    by_cases c27 : xs i &&& 31 = 27
    · rw [if_pos c27]
      obtain ⟨τ1, τ2, g1, g2, g3⟩ := st_CM (mc := fun τ => m_X8_ask N τ 0 (xs (i + 1)) (xs (i + 2))) (mm := fun τ => m_X9_ask N τ 53 (xs (i + 1)) (xs (i + 2))) hI (fun u R h => co_ask hN h hv (xs (i + 1)) (xs (i + 2))) (fun f a b h => mo_ask hN h hv (by omega) (xs (i + 1)) (xs (i + 2))) (vaM (va_ask hv (xs (i + 1)) (xs (i + 2))))
      rw [show m_X8_ask N τ 0 (xs (i + 1)) (xs (i + 2)) = _ from g1]
      simp only [Option.bind_some]
      rw [show m_X9_ask N τ1 53 (xs (i + 1)) (xs (i + 2)) = _ from g2]
      simp only [Option.bind_some, if_true]
      exact go N τ2 _ c sl g3 (by omega) (by omega) hN78
    rw [if_neg c27]
    by_cases c28 : xs i &&& 31 = 28
    · rw [if_pos c28]
      obtain ⟨g1, g2, g3⟩ := st_vv (mc := fun τ => m_X8_trace N τ 0 (xs (i + 1))) (mm := fun τ => m_X9_trace N τ 53 (xs (i + 1))) hI (fun σ u R h => co_trace hN h hv (xs (i + 1))) (fun σ f a b h => mo_trace hN h hv (xs (i + 1)))
      rw [show m_X8_trace N τ 0 (xs (i + 1)) = _ from g1, show m_X9_trace N τ 53 (xs (i + 1)) = _ from g2]
      simp only [Option.bind_some, if_true]
      exact go N τ _ c sl g3 (by omega) (by omega) hN78
    rw [if_neg c28]
    by_cases c29 : xs i &&& 31 = 29
    · rw [if_pos c29]
      obtain ⟨g1, g2, g3⟩ := st_vv (mc := fun τ => m_X8_count N τ 0 (xs (i + 1))) (mm := fun τ => m_X9_count N τ 53 (xs (i + 1))) hI (fun σ u R h => co_count hN h hv (xs (i + 1))) (fun σ f a b h => mo_count hN h hv (by omega) (xs (i + 1)))
      rw [show m_X8_count N τ 0 (xs (i + 1)) = _ from g1, show m_X9_count N τ 53 (xs (i + 1)) = _ from g2]
      simp only [Option.bind_some, if_true]
      exact go N τ _ c sl g3 (by omega) (by omega) hN78
    rw [if_neg c29]
    by_cases c30 : xs i &&& 31 = 30
    · rw [if_pos c30]
      obtain ⟨g1, g2, g3⟩ := st_vv (mc := fun τ => m_X8_status N τ 0) (mm := fun τ => m_X9_status N τ 53) hI (fun σ u R h => co_status hN h) (fun σ f a b h => mo_status hN h)
      rw [show m_X8_status N τ 0 = _ from g1, show m_X9_status N τ 53 = _ from g2]
      simp only [Option.bind_some, if_true]
      exact go N τ _ c sl g3 (by omega) (by omega) hN78
    rw [if_neg c30]
    obtain ⟨σ, u, R, f, a, b, e, h1, h2, h3, h4⟩ := hI
    exact go N τ s c sl ⟨σ, u, R, f, a, b, e, h1, h2, vaM h3, h4.mono (Nat.le_succ m)⟩ (by omega) (by omega) hN78
