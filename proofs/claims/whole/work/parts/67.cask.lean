/-! the class: ask -/
/-- the heap while the trace grows -/
def KF (g : Nat → Int32) (t d k p c : Int32) : Nat → Int32 := upd (upd (upd (upd (upd g 1 t) 2 d) 3 k) 4 p) 5 c
def KH (σ : Hp) (u : Nat → Nat → Int32) (R : CR) (d k p c : Int32) (t : Nat) (g : Nat → Int32) : Hp := CH σ (va_up (va_up u 33 (KF (u 33) (nI t) d k p c)) 34 g) R
section CK
variable {N m : Nat} {σ : Hp} {u : Nat → Nat → Int32} {R : CR} {s : AS} {d k p c : Int32}
theorem KH_rv (hN : 66 ≤ N) {t : Nat} {g : Nat → Int32} : rv N (KH σ u R d k p c t g) 33 1 = some () := K_rv hN
theorem KH_i2 (hN : 66 ≤ N) {t : Nat} {g : Nat → Int32} : gI N (KH σ u R d k p c t g) 33 1 2 = some d := by unfold KH KF; rw [K_i hN (by omega), vup_n (by decide), vup_s]; rfl
theorem KH_i3 (hN : 66 ≤ N) {t : Nat} {g : Nat → Int32} : gI N (KH σ u R d k p c t g) 33 1 3 = some k := by unfold KH KF; rw [K_i hN (by omega), vup_n (by decide), vup_s]; rfl
theorem KH_i4 (hN : 66 ≤ N) {t : Nat} {g : Nat → Int32} : gI N (KH σ u R d k p c t g) 33 1 4 = some p := by unfold KH KF; rw [K_i hN (by omega), vup_n (by decide), vup_s]; rfl
theorem KH_i5 (hN : 66 ≤ N) {t : Nat} {g : Nat → Int32} : gI N (KH σ u R d k p c t g) 33 1 5 = some c := by unfold KH KF; rw [K_i hN (by omega), vup_n (by decide), vup_s]; rfl
theorem leave_ok (hN : 66 ≤ N) {t : Nat} (ht : t < 16) (g : Nat → Int32) (v : Int32) : m_X1_leaveNumber N (KH σ u R d k p c t g) 33 v = some (KH σ u R d k p c (t + 1) (upd g t v)) := by
  have e1 : gI N (KH σ u R d k p c t g) 33 1 1 = some (nI t) := by unfold KH KF; rw [K_i hN (by omega), vup_n (by decide), vup_s]; rfl
  unfold m_X1_leaveNumber
  rw [KH_rv hN, e1]
  simp only [Option.bind_some]
  rw [if_neg (show ¬ (16 : Int32) ≤ nI t by rw [show (16 : Int32) = nI 16 from rfl, nI_leI (by omega) (by omega)]; omega)]
  unfold KH
  rw [K_r0 hN]
  simp only [Option.bind_some]
  rw [K_s hN ht, vup_s, vup_vup]
  simp only [Option.bind_some]
  rw [K_i hN (by omega), vup_n (by decide), vup_s, show KF (u 33) (nI t) d k p c 1 = nI t from rfl]
  simp only [Option.bind_some]
  rw [K_p hN (by omega), vup_n (show 33 ≠ 34 by decide), vup_s, nI_1]
  simp only [Option.bind_some]
  congr 2
  have e2 : upd (KF (u 33) (nI t) d k p c) 1 (nI (t + 1)) = KF (u 33) (nI (t + 1)) d k p c := by
    funext j
    unfold KF
    by_cases h1 : j = 1
    · subst h1; rfl
    · rw [upd_n h1]
      unfold upd
      by_cases h2 : j = 2
      · subst h2; rfl
      · by_cases h3 : j = 3
        · subst h3; rfl
        · by_cases h4 : j = 4
          · subst h4; rfl
          · by_cases h5 : j = 5
            · subst h5; rfl
            · simp [h1, h2, h3, h4, h5]
  rw [e2]
  funext i
  by_cases h1 : i = 33
  · subst h1; rw [vup_s, vup_n (by decide), vup_s]
  · rw [vup_n h1]
    by_cases h2 : i = 34
    · subst h2; rw [vup_s, vup_s]
    · rw [vup_n h2, vup_n h1, vup_n h2, vup_n h1]
theorem e8 {e : Nat} (h : e ≤ 8) : nI e ≤ 8 := by rw [show (8 : Int32) = nI 8 from rfl, nI_leI (by omega) (by omega)]; exact h
theorem gv10 (hN : 66 ≤ N) {n t e : Nat} (ht : t < 16) (he : e ≤ 8) (g : Nat → Int32) : m_X1_give (n + 1) N (KH σ u R d k p c t g) 33 10 (nI e) = some (d, KH σ u R d k p c (t + 1) (upd g t 10)) := by
  rw [m_X1_give, if_pos (e8 he), leave_ok hN ht]
  simp only [Option.bind_some, if_true]
  rw [KH_i2 hN]; rfl
theorem gv20 (hN : 66 ≤ N) {n t e : Nat} (ht : t < 16) (he : e ≤ 8) (g : Nat → Int32) : m_X1_give (n + 1) N (KH σ u R d k p c t g) 33 20 (nI e) = some (p, KH σ u R d k p c (t + 1) (upd g t 20)) := by
  rw [m_X1_give, if_pos (e8 he), leave_ok hN ht]
  simp only [Option.bind_some, show ¬ (20 : Int32) = 10 by decide +kernel, show ¬ (20 : Int32) = 11 by decide +kernel, show ¬ (20 : Int32) = 12 by decide +kernel, show ¬ (20 : Int32) = 13 by decide +kernel, show ¬ (20 : Int32) = 14 by decide +kernel, show ¬ (20 : Int32) = 15 by decide +kernel, show ¬ (20 : Int32) = 16 by decide +kernel, show ¬ (20 : Int32) = 17 by decide +kernel, show ¬ (20 : Int32) = 18 by decide +kernel, show ¬ (20 : Int32) = 19 by decide +kernel, if_false, if_true]
  rw [KH_i4 hN]; rfl
theorem gv21 (hN : 66 ≤ N) {n t e : Nat} (ht : t < 15) (he : e ≤ 7) (g : Nat → Int32) : m_X1_give (n + 1 + 1) N (KH σ u R d k p c t g) 33 21 (nI e) = some (p + c, KH σ u R d k p c (t + 1 + 1) (upd (upd g t 21) (t + 1) 20)) := by
  rw [m_X1_give, if_pos (e8 (by omega)), leave_ok hN (by omega)]
  simp only [Option.bind_some, show ¬ (21 : Int32) = 10 by decide +kernel, show ¬ (21 : Int32) = 11 by decide +kernel, show ¬ (21 : Int32) = 12 by decide +kernel, show ¬ (21 : Int32) = 13 by decide +kernel, show ¬ (21 : Int32) = 14 by decide +kernel, show ¬ (21 : Int32) = 15 by decide +kernel, show ¬ (21 : Int32) = 16 by decide +kernel, show ¬ (21 : Int32) = 17 by decide +kernel, show ¬ (21 : Int32) = 18 by decide +kernel, show ¬ (21 : Int32) = 19 by decide +kernel, show ¬ (21 : Int32) = 20 by decide +kernel, if_false, if_true]
  rw [KH_rv hN, nI_1, gv20 hN (by omega) (by omega)]
  simp only [Option.bind_some]
  rw [KH_i5 hN]; rfl
theorem gv22 (hN : 66 ≤ N) {n t e : Nat} (ht : t < 14) (he : e ≤ 6) (g : Nat → Int32) : m_X1_give (n + 1 + 1 + 1) N (KH σ u R d k p c t g) 33 22 (nI e) = some (p + c - 1000, KH σ u R d k p c (t + 1 + 1 + 1) (upd (upd (upd g t 22) (t + 1) 21) (t + 1 + 1) 20)) := by
  rw [m_X1_give, if_pos (e8 (by omega)), leave_ok hN (by omega)]
  simp only [Option.bind_some, show ¬ (22 : Int32) = 10 by decide +kernel, show ¬ (22 : Int32) = 11 by decide +kernel, show ¬ (22 : Int32) = 12 by decide +kernel, show ¬ (22 : Int32) = 13 by decide +kernel, show ¬ (22 : Int32) = 14 by decide +kernel, show ¬ (22 : Int32) = 15 by decide +kernel, show ¬ (22 : Int32) = 16 by decide +kernel, show ¬ (22 : Int32) = 17 by decide +kernel, show ¬ (22 : Int32) = 18 by decide +kernel, show ¬ (22 : Int32) = 19 by decide +kernel, show ¬ (22 : Int32) = 20 by decide +kernel, show ¬ (22 : Int32) = 21 by decide +kernel, if_false, if_true]
  rw [KH_rv hN, nI_1, gv21 hN (by omega) (by omega)]; rfl
theorem gv24 (hN : 66 ≤ N) {n t e : Nat} (ht : t < 14) (he : e ≤ 6) (g : Nat → Int32) : m_X1_give (n + 1 + 1 + 1) N (KH σ u R d k p c t g) 33 24 (nI e) = some (2 * (p + c), KH σ u R d k p c (t + 1 + 1 + 1) (upd (upd (upd g t 24) (t + 1) 21) (t + 1 + 1) 20)) := by
  rw [m_X1_give, if_pos (e8 (by omega)), leave_ok hN (by omega)]
  simp only [Option.bind_some, show ¬ (24 : Int32) = 10 by decide +kernel, show ¬ (24 : Int32) = 11 by decide +kernel, show ¬ (24 : Int32) = 12 by decide +kernel, show ¬ (24 : Int32) = 13 by decide +kernel, show ¬ (24 : Int32) = 14 by decide +kernel, show ¬ (24 : Int32) = 15 by decide +kernel, show ¬ (24 : Int32) = 16 by decide +kernel, show ¬ (24 : Int32) = 17 by decide +kernel, show ¬ (24 : Int32) = 18 by decide +kernel, show ¬ (24 : Int32) = 19 by decide +kernel, show ¬ (24 : Int32) = 20 by decide +kernel, show ¬ (24 : Int32) = 21 by decide +kernel, show ¬ (24 : Int32) = 22 by decide +kernel, show ¬ (24 : Int32) = 23 by decide +kernel, if_false, if_true]
  rw [KH_rv hN, nI_1, gv21 hN (by omega) (by omega)]; rfl
theorem gv13 (hN : 66 ≤ N) {n t e : Nat} (ht : t < 15) (he : e ≤ 7) (g : Nat → Int32) : m_X1_give (n + 1 + 1) N (KH σ u R d k p c t g) 33 13 (nI e) = some (d - 100, KH σ u R d k p c (t + 1 + 1) (upd (upd g t 13) (t + 1) 10)) := by
  rw [m_X1_give, if_pos (e8 (by omega)), leave_ok hN (by omega)]
  simp only [Option.bind_some, show ¬ (13 : Int32) = 10 by decide +kernel, show ¬ (13 : Int32) = 11 by decide +kernel, show ¬ (13 : Int32) = 12 by decide +kernel, if_false, if_true]
  rw [KH_rv hN, nI_1, gv10 hN (by omega) (by omega)]; rfl
theorem gv14 (hN : 66 ≤ N) {n t e : Nat} (ht : t < 14) (he : e ≤ 6) (g : Nat → Int32) : m_X1_give (n + 1 + 1 + 1) N (KH σ u R d k p c t g) 33 14 (nI e) = some (2 * (d - 100), KH σ u R d k p c (t + 1 + 1 + 1) (upd (upd (upd g t 14) (t + 1) 13) (t + 1 + 1) 10)) := by
  rw [m_X1_give, if_pos (e8 (by omega)), leave_ok hN (by omega)]
  simp only [Option.bind_some, show ¬ (14 : Int32) = 10 by decide +kernel, show ¬ (14 : Int32) = 11 by decide +kernel, show ¬ (14 : Int32) = 12 by decide +kernel, show ¬ (14 : Int32) = 13 by decide +kernel, if_false, if_true]
  rw [KH_rv hN, nI_1, gv13 hN (by omega) (by omega)]; rfl
/-- 11 begins with 10; then the mark's body -/
theorem gv11 (hN : 66 ≤ N) {n t e : Nat} (ht : t < 14) (he : e ≤ 7) (g : Nat → Int32) {y : Int32} (hy : sA 2 k = some y) {r : Int32 × Hp} (hr : m_X1_give (n + 1) N (KH σ u R d k p c (t + 1 + 1) (upd (upd g t 11) (t + 1) 10)) 33 y (nI (e + 1)) = some r) : m_X1_give (n + 1 + 1) N (KH σ u R d k p c t g) 33 11 (nI e) = some (d + r.1, r.2) := by
  rw [m_X1_give, if_pos (e8 (by omega)), leave_ok hN (by omega)]
  simp only [Option.bind_some, show ¬ (11 : Int32) = 10 by decide +kernel, if_false, if_true]
  rw [KH_rv hN, nI_1, gv10 hN (by omega) (by omega)]
  simp only [Option.bind_some]
  rw [KH_i3 hN]
  simp only [Option.bind_some]
  rw [hy]
  simp only [Option.bind_some]
  rw [KH_rv hN, hr]; rfl
theorem gv12 (hN : 66 ≤ N) {n t e : Nat} (ht : t < 14) (he : e ≤ 7) (g : Nat → Int32) {r : Int32 × Hp} (hr : m_X1_give (n + 1) N (KH σ u R d k p c (t + 1) (upd g t 12)) 33 11 (nI (e + 1)) = some r) : m_X1_give (n + 1 + 1) N (KH σ u R d k p c t g) 33 12 (nI e) = some (-r.1, r.2) := by
  rw [m_X1_give, if_pos (e8 (by omega)), leave_ok hN (by omega)]
  simp only [Option.bind_some, show ¬ (12 : Int32) = 10 by decide +kernel, show ¬ (12 : Int32) = 11 by decide +kernel, if_false, if_true]
  rw [KH_rv hN, nI_1, hr]; rfl
theorem gv23 (hN : 66 ≤ N) {n t e : Nat} (ht : t < 14) (he : e ≤ 7) (g : Nat → Int32) {y : Int32} (hy : sA 1 k = some y) {r : Int32 × Hp} (hr : m_X1_give (n + 1) N (KH σ u R d k p c (t + 1 + 1) (upd (upd g t 23) (t + 1) 20)) 33 y (nI (e + 1)) = some r) : m_X1_give (n + 1 + 1) N (KH σ u R d k p c t g) 33 23 (nI e) = some (p - r.1, r.2) := by
  rw [m_X1_give, if_pos (e8 (by omega)), leave_ok hN (by omega)]
  simp only [Option.bind_some, show ¬ (23 : Int32) = 10 by decide +kernel, show ¬ (23 : Int32) = 11 by decide +kernel, show ¬ (23 : Int32) = 12 by decide +kernel, show ¬ (23 : Int32) = 13 by decide +kernel, show ¬ (23 : Int32) = 14 by decide +kernel, show ¬ (23 : Int32) = 15 by decide +kernel, show ¬ (23 : Int32) = 16 by decide +kernel, show ¬ (23 : Int32) = 17 by decide +kernel, show ¬ (23 : Int32) = 18 by decide +kernel, show ¬ (23 : Int32) = 19 by decide +kernel, show ¬ (23 : Int32) = 20 by decide +kernel, show ¬ (23 : Int32) = 21 by decide +kernel, show ¬ (23 : Int32) = 22 by decide +kernel, if_false, if_true]
  rw [KH_rv hN, nI_1, gv20 hN (by omega) (by omega)]
  simp only [Option.bind_some]
  rw [KH_i3 hN]
  simp only [Option.bind_some]
  rw [hy]
  simp only [Option.bind_some]
  rw [KH_rv hN, hr]; rfl
end CK
section CK2
variable {N m : Nat} {σ : Hp} {u : Nat → Nat → Int32} {R : CR} {s : AS}
/-- all of an ask -/
theorem give_all (hN : 66 ≤ N) {d p c : Int32} {k w : Nat} (hk : 1 ≤ k ∧ k ≤ 5) (hw : w < 2) (g : Nat → Int32) {y : Int32} (hy : sA (w + 1) (nI k) = some y) : ∃ g', m_X1_give 12 N (KH σ u R d (nI k) p c 0 g) 33 y 0 = some (askV k w d p c, KH σ u R d (nI k) p c (askT k w).length g') ∧ ∀ j, j < (askT k w).length → g' j = nI ((askT k w).getD j 0) := by
  have u2 : ∀ j, j < 2 → ∀ (g : Nat → Int32) (a b : Int32), upd (upd g 0 a) (0 + 1) b j = [a, b].getD j 0 := fun j hj g a b => by
    rcases (show j = 0 ∨ j = 1 by omega) with rfl | rfl <;> rfl
  rcases (show w = 0 ∨ w = 1 by omega) with rfl | rfl
  · rcases (show k = 1 ∨ k = 2 ∨ k = 3 ∨ k = 4 ∨ k = 5 by omega) with rfl | rfl | rfl | rfl | rfl
    · obtain rfl : y = 11 := by rw [show sA (0 + 1) (nI 1) = some 11 by decide +kernel] at hy; exact (Option.some.inj hy).symm
      refine ⟨_, gv11 (n := 10) (e := 0) hN (by omega) (by omega) g (show sA 2 (nI 1) = some 21 by decide +kernel) (gv21 (n := 9) hN (by omega) (by omega) _), fun j hj => ?_⟩
      have hj : j < 4 := hj
      rcases (show j = 0 ∨ j = 1 ∨ j = 2 ∨ j = 3 by omega) with rfl | rfl | rfl | rfl <;> rfl
    · obtain rfl : y = 12 := by rw [show sA (0 + 1) (nI 2) = some 12 by decide +kernel] at hy; exact (Option.some.inj hy).symm
      refine ⟨_, gv12 (n := 10) (e := 0) hN (by omega) (by omega) g (gv11 (n := 9) (e := 1) hN (by omega) (by omega) _ (show sA 2 (nI 2) = some 24 by decide +kernel) (gv24 (n := 7) hN (by omega) (by omega) _)), fun j hj => ?_⟩
      have hj : j < 6 := hj
      rcases (show j = 0 ∨ j = 1 ∨ j = 2 ∨ j = 3 ∨ j = 4 ∨ j = 5 by omega) with rfl | rfl | rfl | rfl | rfl | rfl <;> rfl
    · obtain rfl : y = 11 := by rw [show sA (0 + 1) (nI 3) = some 11 by decide +kernel] at hy; exact (Option.some.inj hy).symm
      refine ⟨_, gv11 (n := 10) (e := 0) hN (by omega) (by omega) g (show sA 2 (nI 3) = some 22 by decide +kernel) (gv22 (n := 8) hN (by omega) (by omega) _), fun j hj => ?_⟩
      have hj : j < 5 := hj
      rcases (show j = 0 ∨ j = 1 ∨ j = 2 ∨ j = 3 ∨ j = 4 by omega) with rfl | rfl | rfl | rfl | rfl <;> rfl
    · obtain rfl : y = 13 := by rw [show sA (0 + 1) (nI 4) = some 13 by decide +kernel] at hy; exact (Option.some.inj hy).symm
      refine ⟨_, gv13 (n := 10) (e := 0) hN (by omega) (by omega) g, fun j hj => ?_⟩
      have hj : j < 2 := hj
      rcases (show j = 0 ∨ j = 1 by omega) with rfl | rfl <;> rfl
    · obtain rfl : y = 14 := by rw [show sA (0 + 1) (nI 5) = some 14 by decide +kernel] at hy; exact (Option.some.inj hy).symm
      refine ⟨_, gv14 (n := 9) (e := 0) hN (by omega) (by omega) g, fun j hj => ?_⟩
      have hj : j < 3 := hj
      rcases (show j = 0 ∨ j = 1 ∨ j = 2 by omega) with rfl | rfl | rfl <;> rfl
  · rcases (show k = 1 ∨ k = 2 ∨ k = 3 ∨ k = 4 ∨ k = 5 by omega) with rfl | rfl | rfl | rfl | rfl
    · obtain rfl : y = 21 := by rw [show sA (1 + 1) (nI 1) = some 21 by decide +kernel] at hy; exact (Option.some.inj hy).symm
      refine ⟨_, gv21 (n := 10) (e := 0) hN (by omega) (by omega) g, fun j hj => ?_⟩
      have hj : j < 2 := hj
      rcases (show j = 0 ∨ j = 1 by omega) with rfl | rfl <;> rfl
    · obtain rfl : y = 24 := by rw [show sA (1 + 1) (nI 2) = some 24 by decide +kernel] at hy; exact (Option.some.inj hy).symm
      refine ⟨_, gv24 (n := 9) (e := 0) hN (by omega) (by omega) g, fun j hj => ?_⟩
      have hj : j < 3 := hj
      rcases (show j = 0 ∨ j = 1 ∨ j = 2 by omega) with rfl | rfl | rfl <;> rfl
    · obtain rfl : y = 22 := by rw [show sA (1 + 1) (nI 3) = some 22 by decide +kernel] at hy; exact (Option.some.inj hy).symm
      refine ⟨_, gv22 (n := 9) (e := 0) hN (by omega) (by omega) g, fun j hj => ?_⟩
      have hj : j < 3 := hj
      rcases (show j = 0 ∨ j = 1 ∨ j = 2 by omega) with rfl | rfl | rfl <;> rfl
    · obtain rfl : y = 23 := by rw [show sA (1 + 1) (nI 4) = some 23 by decide +kernel] at hy; exact (Option.some.inj hy).symm
      refine ⟨_, gv23 (n := 10) (e := 0) hN (by omega) (by omega) g (show sA 1 (nI 4) = some 13 by decide +kernel) (gv13 (n := 9) hN (by omega) (by omega) _), fun j hj => ?_⟩
      have hj : j < 4 := hj
      rcases (show j = 0 ∨ j = 1 ∨ j = 2 ∨ j = 3 by omega) with rfl | rfl | rfl | rfl <;> rfl
    · obtain rfl : y = 23 := by rw [show sA (1 + 1) (nI 5) = some 23 by decide +kernel] at hy; exact (Option.some.inj hy).symm
      refine ⟨_, gv23 (n := 10) (e := 0) hN (by omega) (by omega) g (show sA 1 (nI 5) = some 14 by decide +kernel) (gv14 (n := 8) hN (by omega) (by omega) _), fun j hj => ?_⟩
      have hj : j < 5 := hj
      rcases (show j = 0 ∨ j = 1 ∨ j = 2 ∨ j = 3 ∨ j = 4 by omega) with rfl | rfl | rfl | rfl | rfl <;> rfl
theorem co_ask (hN : 66 ≤ N) (h : RC u s) (hv : VA m s) (d w : Int32) : COp N u R (fun τ => m_X8_ask N τ 0 d w) (o_ask s d w).1 (o_ask s d w).2 := by
  intro σ
  show ∃ u', m_X8_ask N (CH σ u R) 0 d w = _ ∧ _
  have hB := h.2.2.2.2.1
  have hV := hv.2.2.1
  obtain ⟨h4, h6, hP, _⟩ := hV.d4
  have ha := arn_lt hV
  unfold m_X8_ask o_ask
  rw [C_rv hN, C_r2 hN]
  simp only [Option.bind_some]
  rw [hasDisc_ok (b4h hN) hB.2.1]
  simp only [Option.bind_some, ite10]
  rw [rng2]
  by_cases c : isD s d
  · rw [if_pos c, if_pos c]
    by_cases c2 : 0 ≤ w ∧ w ≤ 1
    · obtain ⟨d, hd, rfl⟩ := ofR (by omega) c
      obtain ⟨w, hw, rfl⟩ := i1 c2
      have hL := hB.bl hV
      have hk := hL.2.2.2.2.2.2.2 d hd
      rw [if_pos c2, if_pos c2, C_r6 hN, nt_nI (by omega), nt_nI (by omega)]
      simp only [Option.bind_some]
      unfold m_X1_answer
      rw [K_rv hN]
      simp only [Option.bind_some]
      rw [K_p hN (by omega)]
      simp only [Option.bind_some]
      rw [K_p hN (by omega), vup_s, vup_vup]
      simp only [Option.bind_some]
      have hb : ∀ g, BH N (CH σ (va_up u 33 g) R) 4 (u 4) := fun g => by
        have := CH_b (σ := σ) (u := va_up u 33 g) (R := R) hN b4
        rw [vup_n (by decide)] at this
        exact this
      rw [kindOf_ok (hb _) hL hd]
      simp only [Option.bind_some]
      rw [K_p hN (by omega), vup_s, vup_vup]
      simp only [Option.bind_some]
      rw [pegOf_ok (hb _) (show arn s.bd < 8192 by omega) hB.2.2.2.2.2 (by omega), arn_pg hV hd]
      simp only [Option.bind_some]
      rw [K_p hN (by omega), vup_s, vup_vup]
      simp only [Option.bind_some]
      rw [K_i hN (by omega), vup_s, upd_s]
      simp only [Option.bind_some]
      rw [lyingOn_ok (hb _) (show arn s.bd < 8192 by omega) hB.2.2.2.2.2 hB.2.1 h6 (h4 d), lset_arn hV]
      simp only [Option.bind_some]
      rw [bcnt_64 _ (lset_64 h6)]
      simp only [Option.bind_some]
      rw [K_p hN (by omega), vup_s, vup_vup]
      simp only [Option.bind_some]
      have hKH : CH σ (va_up u 33 (upd (upd (upd (upd (upd (u 33) 1 0) 2 (nI d)) 3 (nI (s.bd.kd d))) 4 (nI (s.bd.pg d))) 5 (nI (bc (lset (stx s.bd) (s.bd.pg d) s.bd.D))))) R = KH σ u R (nI d) (nI (s.bd.kd d)) (nI (s.bd.pg d)) (nI (bc (lset (stx s.bd) (s.bd.pg d) s.bd.D))) 0 (u 34) := by
        unfold KH KF
        congr 1
        funext i
        by_cases e : i = 34
        · subst e; rw [vup_s, vup_n (by decide)]
        · rw [vup_n e]; rfl
      rw [hKH, KH_i3 hN]
      simp only [Option.bind_some]
      have hy : ∃ y, sA (w + 1) (nI (s.bd.kd d)) = some y := by
        unfold sA
        rw [if_pos (show ¬ (nI (s.bd.kd d) < 0 ∨ 6 ≤ (nI (s.bd.kd d)).toNatClampNeg) from fun e => e.elim (nI_nlt0 (by omega)) (fun e => by rw [nI_clamp (by omega)] at e; omega))]
        exact ⟨_, rfl⟩
      obtain ⟨y, hy⟩ := hy
      have hz : ((if nI w = 0 then (sA 1 (nI (s.bd.kd d))).bind fun x20 => some x20 else (sA 2 (nI (s.bd.kd d))).bind fun x18 => some x18) : Option Int32) = some y := by
        rcases (show w = 0 ∨ w = 1 by omega) with rfl | rfl
        · rw [if_pos (show nI 0 = 0 from rfl), hy]; rfl
        · rw [if_neg (show ¬ nI 1 = 0 by decide +kernel), hy]; rfl
      rw [hz]
      simp only [Option.bind_some]
      obtain ⟨g', k1, k2⟩ := give_all (N := N) (σ := σ) (u := u) (R := R) hN (d := nI d) (p := nI (s.bd.pg d)) (c := nI (bc (lset (stx s.bd) (s.bd.pg d) s.bd.D))) hk hw (u 34) hy
      rw [KH_rv hN, k1]
      simp only [Option.bind_some]
      refine ⟨_, rfl, ?_⟩
      obtain ⟨h1, h2, h3, h4', h5, ⟨h6', nx, h61, h62, h63⟩, h7, h8⟩ := h
      refine ⟨fun k hk => ?_, by rw [vup_n (by omega), vup_n (by omega)]; exact h2, ⟨by rw [vup_n (by omega), vup_n (by omega)]; exact h3.1, by rw [vup_n (by omega), vup_n (by omega)]; exact h3.2⟩, by rw [vup_n (by omega), vup_n (by omega)]; exact h4', by rw [vup_n (by omega), vup_n (by omega)]; exact h5, ⟨by rw [vup_n (by omega), vup_n (by omega)]; exact h6', nx, h61, by rw [vup_n (by omega), vup_n (by omega)]; exact h62, fun j hj => by rw [vup_n (by omega), vup_n (by omega)]; exact h63 j hj⟩, fun k hk => by rw [vup_n (by omega), vup_n (by omega)]; exact h7 k hk, ⟨?_, fun j hj => ?_⟩⟩
      · rw [vup_n (by omega), vup_n (by omega), vup_n (by omega), vup_n (by omega)]; exact h1 k hk
      · rw [vup_n (by decide), vup_s]; rfl
      · rw [vup_s]; exact k2 j hj
    · rw [if_neg c2, if_neg c2]; exact ⟨u, rfl, h⟩
  · rw [if_neg c, if_neg c]; exact ⟨u, rfl, h⟩
end CK2
