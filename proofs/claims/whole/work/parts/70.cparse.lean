/-! the class reads a board -/
def TC (u : Nat → Nat → Int32) (s : AS) : Prop := u 2 1 = nI s.tl ∧ s.tl ≤ 60 ∧ ∀ j, j < s.tl → s.tb j < 256 ∧ u 3 j = nI (s.tb j)
/-- only where reading is, its fault, its value differ; the supposed board, too -/
def G2 (u u' : Nat → Nat → Int32) : Prop := (∀ i, i ≠ 2 → u' i = u i) ∧ u' 2 1 = u 2 1
def G25 (u u' : Nat → Nat → Int32) : Prop := (∀ i, i ≠ 2 → i ≠ 5 → u' i = u i) ∧ u' 2 1 = u 2 1
theorem G2.refl {u : Nat → Nat → Int32} : G2 u u := ⟨fun _ _ => rfl, rfl⟩
theorem G2.tr {u v w : Nat → Nat → Int32} (h1 : G2 u v) (h2 : G2 v w) : G2 u w := ⟨fun i hi => by rw [h2.1 i hi, h1.1 i hi], by rw [h2.2, h1.2]⟩
theorem G2.g25 {u v : Nat → Nat → Int32} (h : G2 u v) : G25 u v := ⟨fun i hi _ => h.1 i hi, h.2⟩
theorem G25.tr {u v w : Nat → Nat → Int32} (h1 : G25 u v) (h2 : G25 v w) : G25 u w := ⟨fun i hi h5 => by rw [h2.1 i hi h5, h1.1 i hi h5], by rw [h2.2, h1.2]⟩
theorem G2.up {u : Nat → Nat → Int32} {j : Nat} {v : Int32} (hj : j ≠ 1) : G2 u (va_up u 2 (upd (u 2) j v)) := ⟨fun i hi => vup_n hi, by rw [vup_s, upd_n (Ne.symm hj)]⟩
theorem G25.up5 {u : Nat → Nat → Int32} {g : Nat → Int32} : G25 u (va_up u 5 g) := ⟨fun i _ h5 => vup_n h5, by rw [vup_n (by decide)]⟩
theorem TC.g {u u' : Nat → Nat → Int32} {s : AS} (h : TC u s) (hg : G25 u u') : TC u' s := ⟨by rw [hg.2]; exact h.1, h.2.1, fun j hj => ⟨(h.2.2 j hj).1, by rw [hg.1 3 (by decide) (by decide)]; exact (h.2.2 j hj).2⟩⟩
section CR1
variable {N m : Nat} {σ : Hp} {u : Nat → Nat → Int32} {R : CR} {s : AS}
theorem cbyte_ok (hN : 66 ≤ N) (h : TC u s) {p : Nat} (hp : p < 2 ^ 31) : m_X7_byteAt N (CH σ u R) 2 (nI p) = some (btI s p) := by
  have h60 := h.2.1
  unfold m_X7_byteAt btI
  rw [T_rv hN, T_i hN (by omega), h.1, T_r0 hN]
  simp only [Option.bind_some]
  rw [if_neg (nI_nlt0 hp)]
  by_cases c : p < s.tl
  · rw [if_pos (show nI p < nI s.tl by rw [nI_ltI hp (by omega)]; exact c), if_pos c, T_a hN (by omega), (h.2.2 p c).2]; rfl
  · rw [if_neg (show ¬ nI p < nI s.tl by rw [nI_ltI hp (by omega)]; exact c), if_neg c]
theorem faulty_ok (hN : 66 ≤ N) (w : Int32) : m_X7_faulty N (CH σ u R) 2 w = some (0, CH σ (va_up u 2 (upd (u 2) 3 w)) R) := by
  unfold m_X7_faulty
  rw [T_rv hN]
  simp only [Option.bind_some]
  rw [T_p hN (by omega)]; rfl
/-- what a piece of reading leaves -/
def Rc (u u' : Nat → Nat → Int32) (b : Int32) (r : (Nat × Nat) ⊕ Nat) : Prop := match r with
  | .inl (w, p) => b = 0 ∧ u' 2 3 = nI w ∧ u' 2 2 = nI p
  | .inr q => b = 1 ∧ u' 2 2 = nI q
theorem passes_ok (hN : 66 ≤ N) (h : TC u s) {p c : Nat} (h2 : u 2 2 = nI p) (hp : p ≤ 1000) (hc : c < 256) : ∃ u' b, m_X7_passes N (CH σ u R) 2 (nI c) = some (b, CH σ u' R) ∧ G2 u u' ∧ u' 2 4 = u 2 4 ∧ Rc u u' b (pSg s c p) := by
  unfold m_X7_passes
  rw [T_rv hN, T_i hN (by omega), h2]
  simp only [Option.bind_some]
  rw [cbyte_ok hN h (by omega)]
  simp only [Option.bind_some]
  unfold pSg
  by_cases e : bt s p = c
  · rw [if_pos ((btI_eq hc (fun j hj => (h.2.2 j hj).1)).mpr e), if_pos e, T_p hN (by omega), nI_1]
    exact ⟨_, _, rfl, G2.up (by decide), by rw [vup_s, upd_n (by decide)], rfl, by rw [vup_s, upd_s]⟩
  · rw [if_neg (fun e' => e ((btI_eq hc (fun j hj => (h.2.2 j hj).1)).mp e')), if_neg e, faulty_ok hN]
    simp only [Option.bind_some]
    rw [show zb 0 = some () from rfl]
    exact ⟨_, _, rfl, G2.up (by decide), by rw [vup_s, upd_n (by decide)], rfl, by rw [vup_s, upd_s]; rfl, by rw [vup_s, upd_n (by decide)]; exact h2⟩
theorem isFig_ok {x : Int32} : m_X7_isFigure x = some (if 48 ≤ x ∧ x ≤ 57 then 1 else 0) := by
  unfold m_X7_isFigure
  rw [rng3]
  by_cases c : 48 ≤ x ∧ x ≤ 57
  · rw [if_pos c, if_pos c]
  · rw [if_neg c, if_neg c]
theorem nd_end (hN : 66 ≤ N) (h : TC u s) {p i n : Nat} {v1 v2 : Int32} (h2 : u 2 2 = nI p) (hp : p ≤ 1000) (hi : i < 3) (e : fig (bt s (p + i)) = false) : L_X7_readNumber_7 N 2 v1 v2 (n + 1) (CH σ u R) (nI i) = some (nI i, CH σ u R) := by
  rw [L_X7_readNumber_7.eq_2, if_neg (show ¬ (3 : Int32) ≤ nI i by rw [show (3 : Int32) = nI 3 from rfl, nI_leI (by omega) (by omega)]; omega), T_i hN (by omega), h2]
  simp only [Option.bind_some]
  rw [nI_add, cbyte_ok hN h (by omega)]
  simp only [Option.bind_some]
  rw [isFig_ok]
  simp only [Option.bind_some, ite10]
  rw [if_neg (fun c => by rw [(fig_in (fun j hj => (h.2.2 j hj).1)).mp c] at e; exact absurd e (by decide))]
theorem nd_go (hN : 66 ≤ N) (h : TC u s) {p i n : Nat} {v1 v2 : Int32} (h2 : u 2 2 = nI p) (hp : p ≤ 1000) (hi : i < 3) (e : fig (bt s (p + i)) = true) : L_X7_readNumber_7 N 2 v1 v2 (n + 1) (CH σ u R) (nI i) = L_X7_readNumber_7 N 2 v1 v2 n (CH σ (va_up u 2 (upd (u 2) 4 (10 * u 2 4 + nI (bt s (p + i)) - 48))) R) (nI (i + 1)) := by
  have hb : btI s (p + i) = nI (bt s (p + i)) := by
    have := bt_lt (fig_ne e)
    unfold btI bt; rw [if_pos this, if_pos this]
  rw [L_X7_readNumber_7.eq_2, if_neg (show ¬ (3 : Int32) ≤ nI i by rw [show (3 : Int32) = nI 3 from rfl, nI_leI (by omega) (by omega)]; omega), T_i hN (by omega), h2]
  simp only [Option.bind_some]
  rw [nI_add, cbyte_ok hN h (by omega)]
  simp only [Option.bind_some]
  rw [isFig_ok]
  simp only [Option.bind_some, ite10]
  rw [if_pos ((fig_in (fun j hj => (h.2.2 j hj).1)).mpr e), T_i hN (by omega), hb]
  simp only [Option.bind_some]
  rw [T_p hN (by omega), nI_1]
  rfl
theorem nd_3 {n : Nat} {v1 v2 : Int32} {τ : Hp} : L_X7_readNumber_7 N 2 v1 v2 (n + 1) τ (nI 3) = some (nI 3, τ) := by
  rw [L_X7_readNumber_7.eq_2, if_pos (show (3 : Int32) ≤ nI 3 by decide +kernel)]
def RcN (u u' : Nat → Nat → Int32) (b : Int32) (r : (Nat × Nat) ⊕ (Nat × Nat)) : Prop := match r with
  | .inl (w, p) => b = 0 ∧ u' 2 3 = nI w ∧ u' 2 2 = nI p
  | .inr (v, q) => b = 1 ∧ u' 2 2 = nI q ∧ u' 2 4 = nI v
theorem readNumber_ok (hN : 66 ≤ N) (h : TC u s) {p lo hi : Nat} (h2 : u 2 2 = nI p) (hp : p ≤ s.tl) (hlo : lo < 100) (hhi : hi < 100) : ∃ u' b, m_X7_readNumber N (CH σ u R) 2 (nI lo) (nI hi) = some (b, CH σ u' R) ∧ G2 u u' ∧ RcN u u' b (pNum s p lo hi) := by
  have h60 := h.2.1
  have hfu : fu = 19996 + 1 + 1 + 1 + 1 := rfl
  unfold m_X7_readNumber pNum
  rw [T_rv hN]
  simp only [Option.bind_some]
  rw [T_p hN (by omega)]
  simp only [Option.bind_some]
  have g0 : G2 u (va_up u 2 (upd (u 2) 4 0)) := G2.up (by decide)
  have t0 := h.g g0.g25
  have a0 : va_up u 2 (upd (u 2) 4 0) 2 2 = nI p := by rw [vup_s, upd_n (by decide)]; exact h2
  -- a fault
  have bad : ∀ (u1 : Nat → Nat → Int32) (w : Nat), G2 u u1 → u1 2 2 = nI p → ∃ u' b, ((m_X7_faulty N (CH σ u1 R) 2 (nI w)).bind fun r13 => (zb r13.1).bind fun u14 => some (r13.1, r13.2)) = some (b, CH σ u' R) ∧ G2 u u' ∧ RcN u u' b (.inl (w, p)) := fun u1 w hg ha => by
    rw [faulty_ok hN]
    simp only [Option.bind_some]
    rw [show zb 0 = some () from rfl]
    exact ⟨_, _, rfl, hg.tr (G2.up (by decide)), rfl, by rw [vup_s, upd_s], by rw [vup_s, upd_n (by decide)]; exact ha⟩
  -- the range
  have ran : ∀ (u1 : Nat → Nat → Int32) (v f : Nat), G2 u u1 → u1 2 2 = nI p → u1 2 4 = nI v → v < 100 → f < 3 → ∃ u' b, ((gI N (CH σ u1 R) 2 7 4).bind fun x16 => if x16 < nI lo then (m_X7_faulty N (CH σ u1 R) 2 2).bind fun r18 => (zb r18.1).bind fun u19 => some (r18.1, r18.2) else (gI N (CH σ u1 R) 2 7 4).bind fun x20 => if x20 ≤ nI hi then (gI N (CH σ u1 R) 2 7 2).bind fun x22 => (pV N (CH σ u1 R) 2 7 2 (.int (x22 + nI f))).bind fun σ23 => some (1, σ23) else (m_X7_faulty N (CH σ u1 R) 2 2).bind fun r24 => (zb r24.1).bind fun u25 => some (r24.1, r24.2)) = some (b, CH σ u' R) ∧ G2 u u' ∧ RcN u u' b (rng p lo hi v (p + f)) := fun u1 v f hg ha hv hv1 hf => by
    rw [T_i hN (by omega), hv]
    simp only [Option.bind_some]
    rw [rng2]
    unfold rng
    by_cases c : lo ≤ v ∧ v ≤ hi
    · rw [if_pos (show nI lo ≤ nI v ∧ nI v ≤ nI hi from ⟨(nI_leI (by omega) (by omega)).mpr c.1, (nI_leI (by omega) (by omega)).mpr c.2⟩), if_pos c, T_i hN (by omega), ha]
      simp only [Option.bind_some]
      rw [T_p hN (by omega), nI_add]
      exact ⟨_, _, rfl, hg.tr (G2.up (by decide)), rfl, by rw [vup_s, upd_s], by rw [vup_s, upd_n (by decide)]; exact hv⟩
    · rw [if_neg (show ¬ (nI lo ≤ nI v ∧ nI v ≤ nI hi) from fun e => c ⟨(nI_leI (by omega) (by omega)).mp e.1, (nI_leI (by omega) (by omega)).mp e.2⟩), if_neg c]
      exact bad u1 2 hg ha
  cases e0 : fig (bt s p) with
  | false =>
    have := nd_end (N := N) (σ := σ) (R := R) (i := 0) (n := 19999) (v1 := nI lo) (v2 := nI hi) hN t0 a0 (by omega) (by omega) e0
    rw [nI_0] at this
    rw [show fu = 19999 + 1 from rfl, this, if_neg (by decide)]
    simp only [Option.bind_some, if_true]
    exact bad _ 1 g0 a0
  | true =>
    have b0 := fig_b e0
    have l0 := bt_lt (fig_ne e0)
    have g1 : G2 u (va_up (va_up u 2 (upd (u 2) 4 0)) 2 (upd (va_up u 2 (upd (u 2) 4 0) 2) 4 (10 * va_up u 2 (upd (u 2) 4 0) 2 4 + nI (bt s (p + 0)) - 48))) := g0.tr (G2.up (by decide))
    have x0 : 10 * va_up u 2 (upd (u 2) 4 0) 2 4 + nI (bt s (p + 0)) - 48 = nI (bt s p - 48) := by
      rw [vup_s, upd_s, show (10 : Int32) * 0 = nI 0 by decide +kernel, nI_add, show (48 : Int32) = nI 48 from rfl, pk_sub (by show 48 ≤ 0 + bt s (p + 0); rw [Nat.add_zero]; omega), Nat.zero_add, Nat.add_zero]
    rw [x0, vup_s, upd_upd, vup_vup] at g1
    have s0 := nd_go (N := N) (σ := σ) (R := R) (i := 0) (n := 19996 + 1 + 1 + 1) (v1 := nI lo) (v2 := nI hi) hN t0 a0 (by omega) (by omega) e0
    rw [nI_0, x0, vup_s, upd_upd, vup_vup] at s0
    have t1 := h.g g1.g25
    have a1 : va_up u 2 (upd (u 2) 4 (nI (bt s p - 48))) 2 2 = nI p := by rw [vup_s, upd_n (by decide)]; exact h2
    have w1 : va_up u 2 (upd (u 2) 4 (nI (bt s p - 48))) 2 4 = nI (bt s p - 48) := by rw [vup_s, upd_s]
    rw [hfu, s0, if_pos rfl]
    cases e1 : fig (bt s (p + 1)) with
    | false =>
      rw [nd_end (i := 0 + 1) hN t1 a1 (by omega) (by omega) e1, if_neg (by decide)]
      simp only [Option.bind_some]
      rw [if_neg (show ¬ nI (0 + 1) = 0 by decide +kernel), if_neg (show ¬ nI (0 + 1) = 3 by decide +kernel)]
      exact ran _ (bt s p - 48) 1 g1 a1 w1 (by omega) (by omega)
    | true =>
      have b1 := fig_b e1
      have l1 := bt_lt (fig_ne e1)
      have x1 : 10 * va_up u 2 (upd (u 2) 4 (nI (bt s p - 48))) 2 4 + nI (bt s (p + (0 + 1))) - 48 = nI (10 * (bt s p - 48) + (bt s (p + 1) - 48)) := by
        rw [w1, show (10 : Int32) = nI 10 from rfl, pk_mul, nI_add, show (48 : Int32) = nI 48 from rfl, pk_sub (by show 48 ≤ 10 * (bt s p - 48) + bt s (p + 1); omega)]
        congr 1; show 10 * (bt s p - 48) + bt s (p + 1) - 48 = _; omega
      have s1 := nd_go (N := N) (σ := σ) (R := R) (i := 0 + 1) (n := 19996 + 1 + 1) (v1 := nI lo) (v2 := nI hi) hN t1 a1 (by omega) (by omega) e1
      rw [x1, vup_s, upd_upd, vup_vup] at s1
      have g2 : G2 u (va_up u 2 (upd (u 2) 4 (nI (10 * (bt s p - 48) + (bt s (p + 1) - 48))))) := G2.up (by decide)
      have t2 := h.g g2.g25
      have a2 : va_up u 2 (upd (u 2) 4 (nI (10 * (bt s p - 48) + (bt s (p + 1) - 48)))) 2 2 = nI p := by rw [vup_s, upd_n (by decide)]; exact h2
      have w2 : va_up u 2 (upd (u 2) 4 (nI (10 * (bt s p - 48) + (bt s (p + 1) - 48)))) 2 4 = nI (10 * (bt s p - 48) + (bt s (p + 1) - 48)) := by rw [vup_s, upd_s]
      rw [s1, if_pos rfl]
      cases e2 : fig (bt s (p + 2)) with
      | false =>
        rw [nd_end (i := 0 + 1 + 1) hN t2 a2 (by omega) (by omega) e2, if_neg (by decide)]
        simp only [Option.bind_some]
        rw [if_neg (show ¬ nI (0 + 1 + 1) = 0 by decide +kernel), if_neg (show ¬ nI (0 + 1 + 1) = 3 by decide +kernel)]
        exact ran _ (10 * (bt s p - 48) + (bt s (p + 1) - 48)) 2 g2 a2 w2 (by omega) (by omega)
      | true =>
        rw [nd_go (i := 0 + 1 + 1) hN t2 a2 (by omega) (by omega) e2, nd_3, if_pos rfl]
        simp only [Option.bind_some]
        rw [if_neg (show ¬ nI 3 = 0 by decide +kernel), if_pos (show nI 3 = 3 from rfl)]
        exact bad _ 1 (g2.tr (G2.up (by decide))) (by rw [vup_s, upd_n (by decide)]; exact a2)
theorem csort_ok {p : Nat} (hb : ∀ j, j < s.tl → s.tb j < 256) : m_X7_sortOf (btI s p) = some (nI (srt (bt s p))) := by
  unfold m_X7_sortOf srt
  have key : ∀ c : Nat, c < 256 → ∀ {α : Type} (x y : α), (if btI s p = (nI c) then x else y) = if bt s p = c then x else y := fun c hc α x y => by
    by_cases e : bt s p = c
    · rw [if_pos e, if_pos ((btI_eq hc hb).mpr e)]
    · rw [if_neg e, if_neg (fun e' => e ((btI_eq hc hb).mp e'))]
  rw [show (112 : Int32) = nI 112 from rfl, show (115 : Int32) = nI 115 from rfl, show (104 : Int32) = nI 104 from rfl, show (103 : Int32) = nI 103 from rfl, show (102 : Int32) = nI 102 from rfl, show (105 : Int32) = nI 105 from rfl, show (106 : Int32) = nI 106 from rfl, show (107 : Int32) = nI 107 from rfl, show (108 : Int32) = nI 108 from rfl, show (109 : Int32) = nI 109 from rfl, show (110 : Int32) = nI 110 from rfl, show (111 : Int32) = nI 111 from rfl, show (113 : Int32) = nI 113 from rfl, show (114 : Int32) = nI 114 from rfl, key 112 (by omega), key 115 (by omega), key 104 (by omega), key 103 (by omega), key 102 (by omega), key 105 (by omega), key 106 (by omega), key 107 (by omega), key 108 (by omega), key 109 (by omega), key 110 (by omega), key 111 (by omega), key 113 (by omega), key 114 (by omega)]
  generalize bt s p = c
  by_cases h1 : c = 112
  · subst h1; rfl
  · by_cases h2 : c = 115
    · subst h2; rfl
    · by_cases h3 : c = 104
      · subst h3; rfl
      · by_cases h4 : c = 103
        · subst h4; rfl
        · by_cases h5 : c = 102
          · subst h5; rfl
          · simp only [h1, h2, h3, h4, h5, if_false]
            repeat' split
            all_goals rfl
end CR1
