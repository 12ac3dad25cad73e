/-! the class: least, tower, world, ring (second part) -/
section FA
variable {N m : Nat} {σ : Hp} {u : Nat → Nat → Int32} {R : CR} {s : AS}
theorem SB.few {p : Nat} {b bd : AB} (hN : 66 ≤ N) (hp : 66 ≤ p) (h : SB m N σ p b) (hs : sam b bd) {g : Nat} (hg : g < 4096) (k : Int32) : m_X6_fewest N (CH σ u R) p (nI g) k = some (o_lst bd g k) := by
  obtain ⟨go, f, q, st, lm, ah, tn, S, h1, h2, h3, h4, h5, h6, h7, h8, h9⟩ := h
  rw [← sam_lst hs]
  exact fewest_ok (h1.fr (Nat.le_refl _) (fun i a _ => CH_ge (by omega))) h7 h3 h4 h5 h6 hg k
theorem SB.obj {p : Nat} {b bd : AB} (hN : 66 ≤ N) (hp : 66 ≤ p) (h : SB m N σ p b) (hs : sam b bd) : p < N ∧ ∃ f, CH σ u R p = sObj p f ∧ f 6 = nI (wN bd 4096) ∧ f 7 = mI (mx1 bd 4096) ∧ f 8 = nI (faR bd 4096) ∧ f 9 = nI (wD bd 4096) ∧ f 10 = if rgN bd = 8192 then -1000000 else nI (rgN bd + 1) := by
  obtain ⟨go, f, q, st, lm, ah, tn, S, h1, h2, h3, h4, h5, h6, h7, h8, h9⟩ := h
  obtain ⟨w1, w2, w3, w4⟩ := world_fin h3 h4 h5 h6
  obtain ⟨v1, v2, v3, v4⟩ := sam_w hs
  have hb := back_fin h3 h4 h5 h6
  refine ⟨by have := h1.1; omega, f, by rw [CH_ge (by omega)]; exact h1.2.1, ?_, ?_, ?_, ?_, ?_⟩
  · rw [h8.1, w1, v1]
  · rw [h8.2.1, w3, v3]
  · rw [h8.2.2.1, w4, v4]
  · rw [h8.2.2.2, w2, v2]
  · rw [h9, hb, sam_rg hs]
    have hle : rgN bd ≤ 8192 := by have := (frst_spec (p := fun r => cw (lgl bd.P bd.H bd.D bd.kd) (bhd bd.H bd.D bd.kd) (bef (lgl bd.P bd.H bd.D bd.kd) (bhd bd.H bd.D bd.kd) (arT (stx bd % 4096))) r (stx bd)) 8192 0).2.1; rw [Nat.zero_add] at this; exact this
    unfold bkI
    by_cases c : rgN bd = 8192
    · rw [if_pos c, if_pos c]; rfl
    · rw [if_neg c, if_neg c, if_neg (show ¬ rgN bd + 1 = 9000 by omega)]
theorem DC.sp {p : Nat} {b : AB} (h : SB m N σ p b) : p + 5 < N := by
  obtain ⟨go, f, q, st, lm, ah, tn, S, h1, _⟩ := h
  exact h1.1
theorem co_least (h : RC u s) (hv : VA m s) (hd : DC m N σ R) (hm : m < 2 ^ 30) (r i k : Int32) : COpA N m u R σ (m_X8_least N (CH σ u R) 0 r i k) (o_least s r i k).1 (o_least s r i k).2 := by
  have hN := hd.1
  have h78 := hd.lt
  have hB := h.2.2.2.2.1
  have hV := hv.2.2.1
  obtain ⟨_, h6, hP, _⟩ := hV.d4
  have same : ∀ r, COpA N m u R σ (some (r, N, CH σ u R)) r s := fun r => ⟨u, σ, R, N, rfl, h, hd, fun _ _ _ => rfl⟩
  unfold m_X8_least o_least
  rw [C_rv hN, C_r2 hN]
  simp only [Option.bind_some]
  rw [isNone_ok (b4h hN) hB hV]
  simp only [Option.bind_some, ite10]
  by_cases c1 : s.bd.P = 0
  · rw [if_pos c1, if_pos c1]; exact same _
  rw [if_neg c1, if_neg c1, rowAt_ok hN]
  simp only [Option.bind_some]
  by_cases c2 : 0 ≤ r ∧ r ≤ 7
  · obtain ⟨q, hq, rfl⟩ := i7 c2
    rw [if_pos c2, if_pos c2, nt_nI (by omega)]
    unfold cQ
    simp only []
    by_cases c3 : -1 ≤ k
    · rw [if_pos c3, if_pos c3, (b4h hN).i1, hB.2.1]
      simp only [Option.bind_some]
      rw [flaw_ok hN h hv hq]
      simp only [Option.bind_some]
      by_cases c4 : wrg s q i (nI s.bd.D) = 0
      · rw [if_pos c4, if_pos c4]
        obtain ⟨w1, w2⟩ := wrg_0 c4
        obtain ⟨x, w, rfl, ew, g1, g2, g3⟩ := wth_le w2 (hv.1 q hq).2
        have ew : s.bd.D = w := (nI_eq (by omega) (by omega)).mp ew
        rw [arr_ok hN h hv hq w1 (show x + s.bd.D ≤ s.size q by omega), nt_nI (by omega)]
        simp only [Option.bind_some]
        unfold tldI
        by_cases c5 : tOK s.bd.P (fun d => s.items q (x + d)) s.bd.D = true
        · have hlt := tldN_lt hP c5
          have h46 := pow4_6 h6
          rw [if_pos c5, if_pos c5, if_pos (show (0 : Int32) ≤ _ from nI_ge0 (by unfold tldN at hlt; omega)), al_ok (DC.HW hd) (fun y hy => by simp at hy; omega) (by omega) (by omega) (by omega)]
          simp only [Option.bind_some]
          obtain ⟨p, N', σ', R', b, k1, k2, k3, k4, k5, k6⟩ := searched_ok (u := u) hd hB hV (nb_ne c1) hm
          have h78' := k2.lt
          rw [k1]
          simp only [Option.bind_some]
          rw [nb_ok (by omega)]
          simp only [Option.bind_some]
          rw [show nI (encP (fun d => nt (s.items q (x + d))) s.bd.D) = nI (tldN (fun d => s.items q (x + d)) s.bd.D) from rfl, k3.few (u := u) (R := R') k2.1 k5 k4 (by omega) k]
          simp only [Option.bind_some]
          rw [well_ok k2.1]
          exact ⟨_, σ', R', N', rfl, h.fnd 0, k2, k6⟩
        · rw [if_neg c5, if_neg c5, if_neg (show ¬ (0 : Int32) ≤ -1 by decide +kernel)]
          simp only [Option.bind_some]
          rw [well_ok hN]
          exact ⟨_, σ, R, N, rfl, h.fnd 0, hd, fun _ _ _ => rfl⟩
      · rw [if_neg c4, if_neg c4, found_ok hN]
        exact ⟨_, σ, R, N, rfl, h.fnd _, hd, fun _ _ _ => rfl⟩
    · rw [if_neg c3, if_neg c3]; exact same _
  · rw [if_neg c2, if_neg c2]; exact same _
theorem allOn_loop (hN : 66 ≤ N) (h : RC u s) (h6 : s.bd.D ≤ 6) {p : Nat} (hp : p < 4) : ∀ (r t d : Nat), d + r = s.bd.D → r < t → L_X2_allOn_4 N (CH σ u R) 4 (nI p) t (nI (encP (fun _ => p) d)) (nI d) = some (nI (encP (fun _ => p) s.bd.D)) := by
  have hB := h.2.2.2.2.1
  intro r
  induction r with
  | zero =>
    intro t d hd ht
    obtain ⟨t, rfl⟩ : ∃ k, t = k + 1 := ⟨t - 1, by omega⟩
    obtain rfl : d = s.bd.D := by omega
    rw [L_X2_allOn_4.eq_2, (b4h hN).i1, hB.2.1]
    simp only [Option.bind_some]
    rw [if_pos (nI_le (Nat.le_refl _) (by omega))]
  | succ r ih =>
    intro t d hd ht
    obtain ⟨t, rfl⟩ : ∃ k, t = k + 1 := ⟨t - 1, by omega⟩
    rw [L_X2_allOn_4.eq_2, (b4h hN).i1, hB.2.1]
    simp only [Option.bind_some]
    have hlt : encP (fun _ => p) d < 4 ^ d := encP_lt (fun _ _ => hp)
    have h45 : 4 ^ d ≤ 1024 := Nat.pow_le_pow_right (n := 4) (by omega) (show d ≤ 5 by omega)
    have hor : encP (fun _ => p) d ||| p * 4 ^ d = encP (fun _ => p) (d + 1) := by
      have e3 : encP (fun _ => p) (d + 1) = encP (fun _ => p) d + p * 4 ^ d := rfl
      rw [pow4] at hlt
      rw [e3, Nat.or_comm, Nat.mul_comm p (4 ^ d), pow4, ← Nat.two_pow_add_eq_or_of_lt hlt]
      exact Nat.add_comm _ _
    rw [if_neg (nI_ge (by omega) (by omega)), show nI p &&& 3 = nI p by rw [pk_andN (m := 3) (k := 2) (by omega) (by decide +kernel)]; congr 1; exact Nat.mod_eq_of_lt (by omega), show (2 : Int32) = nI 2 from rfl, pk_mul, ni_shl (by omega) (by
      rw [← pow4]
      have : p * 4 ^ d ≤ 3 * 4 ^ d := Nat.mul_le_mul_right _ (by omega)
      omega), ← pow4, ni_or, lt, nI_1, hor]
    exact ih t (d + 1) (by omega) (by omega)
theorem co_tower (h : RC u s) (hv : VA m s) (hd : DC m N σ R) (hm : m < 2 ^ 30) (p k : Int32) : COpA N m u R σ (m_X8_tower N (CH σ u R) 0 p k) (o_tower s p k) s := by
  have hN := hd.1
  have h78 := hd.lt
  have hB := h.2.2.2.2.1
  have hV := hv.2.2.1
  obtain ⟨_, h6, hP, _⟩ := hV.d4
  have same : ∀ r, COpA N m u R σ (some (r, N, CH σ u R)) r s := fun r => ⟨u, σ, R, N, rfl, h, hd, fun _ _ _ => rfl⟩
  unfold m_X8_tower o_tower
  rw [C_rv hN, C_r2 hN]
  simp only [Option.bind_some]
  rw [isNone_ok (b4h hN) hB hV, hasPeg_ok (b4h hN) hB.1]
  simp only [Option.bind_some, ite10]
  by_cases c1 : s.bd.P = 0
  · rw [if_pos c1, if_pos c1]; exact same _
  rw [if_neg c1, if_neg c1]
  by_cases c2 : 0 ≤ p ∧ p < nI s.bd.P
  · rw [if_pos c2, if_pos c2]
    by_cases c3 : -1 ≤ k
    · rw [if_pos c3, if_pos c3, al_ok (DC.HW hd) (fun y hy => by simp at hy; omega) (by omega) (by omega) (by omega)]
      simp only [Option.bind_some]
      obtain ⟨q, N', σ', R', b, k1, k2, k3, k4, k5, k6⟩ := searched_ok (u := u) hd hB hV (nb_ne c1) hm
      have h78' := k2.lt
      obtain ⟨x, hx, rfl⟩ := ofR (by omega) c2
      rw [k1]
      simp only [Option.bind_some]
      rw [nb_ok (by omega)]
      simp only [Option.bind_some]
      rw [C_r2 k2.1]
      simp only [Option.bind_some]
      unfold m_X2_allOn
      have hl := allOn_loop (σ := σ') (R := R') k2.1 h h6 (show x < 4 by omega) s.bd.D fu 0 (by omega) (by show _ < 20000; omega)
      rw [show encP (fun _ => x) 0 = 0 from rfl, nI_0] at hl
      rw [(b4h k2.1).rv]
      simp only [Option.bind_some]
      rw [hl]
      simp only [Option.bind_some]
      have hlt : encP (fun _ => x) s.bd.D < 4 ^ s.bd.D := encP_lt (fun _ _ => by show x < 4; omega)
      have h46 := pow4_6 h6
      rw [k3.few (u := u) (R := R') k2.1 k5 k4 (show encP (fun _ => x) s.bd.D < 4096 by omega) k, nt_nI (by omega)]
      exact ⟨u, σ', R', N', rfl, h, k2, k6⟩
    · rw [if_neg c3, if_neg c3]; exact same _
  · rw [if_neg c2, if_neg c2]; exact same _
theorem co_world (h : RC u s) (hv : VA m s) (hd : DC m N σ R) (hm : m < 2 ^ 30) (w : Int32) : COpA N m u R σ (m_X8_world N (CH σ u R) 0 w) (o_world s w) s := by
  have hN := hd.1
  have h78 := hd.lt
  have hB := h.2.2.2.2.1
  have hV := hv.2.2.1
  obtain ⟨_, h6, hP, _⟩ := hV.d4
  have same : ∀ r, COpA N m u R σ (some (r, N, CH σ u R)) r s := fun r => ⟨u, σ, R, N, rfl, h, hd, fun _ _ _ => rfl⟩
  unfold m_X8_world o_world
  rw [C_rv hN, C_r2 hN]
  simp only [Option.bind_some]
  rw [isNone_ok (b4h hN) hB hV]
  simp only [Option.bind_some, ite10]
  by_cases c1 : s.bd.P = 0
  · rw [if_pos c1, if_pos c1]; exact same _
  rw [if_neg c1, if_neg c1, rng2]
  by_cases c2 : 0 ≤ w ∧ w ≤ 3
  · rw [if_pos c2, if_pos c2, al_ok (DC.HW hd) (fun y hy => by simp at hy; omega) (by omega) (by omega) (by omega)]
    simp only [Option.bind_some]
    obtain ⟨q, N', σ', R', b, k1, k2, k3, k4, k5, k6⟩ := searched_ok (u := u) hd hB hV (nb_ne c1) hm
    have h78' := k2.lt
    rw [k1]
    simp only [Option.bind_some]
    rw [nb_ok (by omega)]
    simp only [Option.bind_some]
    obtain ⟨o0, f, o1, o2, o3, o4, o5, o6⟩ := k3.obj (u := u) (R := R') k2.1 k5 k4
    have hF : faR s.bd 4096 < 2 ^ 31 := by
      obtain ⟨_, f2, f3⟩ := faR_spec s.bd 4096
      by_cases c : mx1 s.bd 4096 = 0
      · rw [f3 c]; omega
      · have := (f2 c).1; omega
    rw [gI_of (x := f 6) o0 o1 rfl, gI_of (x := f 7) o0 o1 rfl, gI_of (x := f 8) o0 o1 rfl, gI_of (x := f 9) o0 o1 rfl, o2, o3, o4, o5, C_r2 k2.1]
    simp only [Option.bind_some]
    rw [cCode_ok (b4h k2.1) hB.2.1 h6 hF]
    simp only [Option.bind_some]
    by_cases w0 : w = 0
    · rw [if_pos w0, if_pos w0]; exact ⟨u, σ', R', N', rfl, h, k2, k6⟩
    · rw [if_neg w0, if_neg w0]
      by_cases w1 : w = 1
      · rw [if_pos w1, if_pos w1]; exact ⟨u, σ', R', N', rfl, h, k2, k6⟩
      · rw [if_neg w1, if_neg w1]
        by_cases w2 : w = 2
        · rw [if_pos w2, if_pos w2]; exact ⟨u, σ', R', N', rfl, h, k2, k6⟩
        · rw [if_neg w2, if_neg w2]; exact ⟨u, σ', R', N', rfl, h, k2, k6⟩
  · rw [if_neg c2, if_neg c2]; exact same _
theorem co_ring (h : RC u s) (hv : VA m s) (hd : DC m N σ R) (hm : m < 2 ^ 30) : COpA N m u R σ (m_X8_ring N (CH σ u R) 0) (o_ring s) s := by
  have hN := hd.1
  have h78 := hd.lt
  have hB := h.2.2.2.2.1
  have hV := hv.2.2.1
  have same : ∀ r, COpA N m u R σ (some (r, N, CH σ u R)) r s := fun r => ⟨u, σ, R, N, rfl, h, hd, fun _ _ _ => rfl⟩
  unfold m_X8_ring o_ring
  rw [C_rv hN, C_r2 hN]
  simp only [Option.bind_some]
  rw [isNone_ok (b4h hN) hB hV]
  simp only [Option.bind_some, ite10]
  by_cases c1 : s.bd.P = 0
  · rw [if_pos c1, if_pos c1]; exact same _
  rw [if_neg c1, if_neg c1, al_ok (DC.HW hd) (fun y hy => by simp at hy; omega) (by omega) (by omega) (by omega)]
  simp only [Option.bind_some]
  obtain ⟨q, N', σ', R', b, k1, k2, k3, k4, k5, k6⟩ := searched_ok (u := u) hd hB hV (nb_ne c1) hm
  have h78' := k2.lt
  rw [k1]
  simp only [Option.bind_some]
  rw [nb_ok (by omega)]
  simp only [Option.bind_some]
  obtain ⟨o0, f, o1, o2, o3, o4, o5, o6⟩ := k3.obj (u := u) (R := R') k2.1 k5 k4
  rw [gI_of (x := f 10) o0 o1 rfl, o6]
  exact ⟨u, σ', R', N', rfl, h, k2, k6⟩
end FA
