/-! the class: the net now -/
def nObj (n : Nat) (t : Int32) : va_E := .inr (4, [.ref (n + 1), .ref (n + 2), .int t])
theorem NE.fr {N N' n : Nat} {τ τ' : Hp} {tn : Bool} {gl kn : Nat → Int32} (h : NE N τ n tn gl kn) (hN : N ≤ N') (e : ∀ i, n ≤ i → i ≤ n + 2 → τ' i = τ i) : NE N' τ' n tn gl kn :=
  ⟨by have := h.1; omega, by rw [e n (by omega) (by omega)]; exact h.2.1, by rw [e (n + 1) (by omega) (by omega)]; exact h.2.2.1, by rw [e (n + 2) (by omega) (by omega)]; exact h.2.2.2⟩
section LA
variable {N n c m : Nat} {τ : Hp} {tn : Bool} {gl kn gb : Nat → Int32} {bd : AB}
theorem lookAt_ok (h : NE N τ n tn gl kn) (hb : BH N τ c gb) (hB : BR gb bd) (hV : VB m bd) (hc : c ≠ n ∧ c ≠ n + 1 ∧ c ≠ n + 2) (hl : (gl 0 = gb 0 ∧ gl 1 = gb 1 ∧ gl 2 = gb 2 ∧ gl 4 = gb 4) → KN bd.P bd.H bd.D bd.kd kn ∧ tn = frB bd.kd bd.D) : ∃ τ' kn', m_X4_lookAt N τ n c = some τ' ∧ NE N τ' n (frB bd.kd bd.D) gb kn' ∧ KN bd.P bd.H bd.D bd.kd kn' ∧ ∀ i, i ≠ n → i ≠ n + 1 → i ≠ n + 2 → τ' i = τ i := by
  obtain ⟨h1, h2, h3, h4⟩ := h
  have hlaw : BH N τ (n + 1) gl := ⟨by omega, h3⟩
  have hbl := hB.bl hV
  unfold m_X4_lookAt
  rw [rv_of (by omega) h2, gR_of (x := n + 1) (fs := [.ref (n + 1), .ref (n + 2), .int (tI tn)]) (by omega) h2 rfl]
  simp only [Option.bind_some]
  rw [hasLaw_ok hlaw hb]
  simp only [Option.bind_some]
  by_cases e : gl 0 = gb 0 ∧ gl 1 = gb 1 ∧ gl 2 = gb 2 ∧ gl 4 = gb 4
  · obtain ⟨k1, k2⟩ := hl e
    rw [decide_eq_true e, if_neg (show ¬ bI true = 0 by decide +kernel)]
    simp only [Option.bind_some]
    rw [gR_of (x := n + 1) (fs := [.ref (n + 1), .ref (n + 2), .int (tI tn)]) (by omega) h2 rfl]
    simp only [Option.bind_some]
    rw [take_ok hlaw hb (by omega)]
    refine ⟨_, kn, rfl, ⟨h1, ?_, vup_s, ?_⟩, k1, fun i a b d => vup_n b⟩
    · rw [vup_n (by omega), h2, k2]
    · rw [vup_n (by omega), h4]
  · rw [decide_eq_false e, if_pos (show bI false = 0 from rfl), gR_of (x := n + 2) (fs := [.ref (n + 1), .ref (n + 2), .int (tI tn)]) (by omega) h2 rfl]
    simp only [Option.bind_some]
    rw [fill_ok (i := n + 2) (by omega) (by omega) h4]
    simp only [Option.bind_some]
    rw [hasFrail_ok (hb.ne (by omega) _) hbl]
    simp only [Option.bind_some]
    have hz : ((if bI (frB bd.kd bd.D) = 0 then some 0 else some 4096) : Option Int32) = some (tI (frB bd.kd bd.D)) := by
      cases frB bd.kd bd.D with
      | true => rw [if_neg (show ¬ bI true = 0 by decide +kernel)]; rfl
      | false => rw [if_pos (show bI false = 0 from rfl)]; rfl
    rw [hz]
    simp only [Option.bind_some]
    rw [pV_of (i := n) (fs := [.ref (n + 1), .ref (n + 2), .int (tI tn)]) (by omega) (by rw [vup_n (by omega)]; exact h2) (by simp)]
    simp only [Option.bind_some]
    rw [gR_of (x := n + 1) (i := n) (by omega) vup_s rfl]
    simp only [Option.bind_some]
    rw [take_ok ((hlaw.ne (by omega) _).ne (by omega) _) ((hb.ne (by omega) _).ne (by omega) _) (by omega)]
    refine ⟨_, _, rfl, ⟨h1, ?_, vup_s, by rw [vup_n (by omega), vup_n (by omega), vup_s]; rfl⟩, fun x hx => Or.inl (if_pos hx), fun i a b d => by rw [vup_n b, vup_n a, vup_n d]⟩
    rw [vup_n (by omega), vup_s]; rfl
end LA
/-- the net, if it is made -/
def DN (m N : Nat) (σ : Hp) (n : Nat) : Prop := n = 0 ∨ (66 ≤ n ∧ ∃ b tn gl kn, NE N σ n tn gl kn ∧ BR gl b ∧ VB m b ∧ KN b.P b.H b.D b.kd kn ∧ tn = frB b.kd b.D)
def OK (N : Nat) (σ : Hp) : Prop := ∀ i, 53 ≤ i → i < N → okE N (σ i)
theorem OK.mono_up {N : Nat} {σ : Hp} (h : OK N σ) {e : va_E} (he : okE (N + 1) e) : OK (N + 1) (va_up σ N e) := fun i h1 h2 => by
  by_cases c : i = N
  · subst c; rw [vup_s]; exact he
  · rw [vup_n c]; exact (h i h1 (by omega)).mono (by omega)
theorem OK.up {N : Nat} {σ : Hp} (h : OK N σ) {k : Nat} {e : va_E} (he : okE N e) : OK N (va_up σ k e) := fun i h1 h2 => by
  by_cases c : i = k
  · subst c; rw [vup_s]; exact he
  · rw [vup_n c]; exact h i h1 h2
/-- a heap that differs above only -/
theorem CH_of {σ τ' : Hp} {u : Nat → Nat → Int32} {R : CR} (h : ∀ i, i < 53 → τ' i = CH σ u R i) : τ' = CH τ' u R := by
  funext i
  by_cases c : i < 53
  · rw [h i c, CH_lt c, CH_lt c]
  · rw [CH_ge (by omega)]
section NN
variable {N m : Nat} {σ : Hp} {u : Nat → Nat → Int32} {R : CR} {bd : AB}
theorem okE_n {N n : Nat} {t : Int32} (h : n + 2 < N) : okE N (nObj n t) := okE_o (fun v hv => by
  rcases List.mem_cons.mp hv with rfl | hv
  · show n + 1 < N; omega
  rcases List.mem_cons.mp hv with rfl | hv
  · show n + 2 < N; omega
  rcases List.mem_cons.mp hv with rfl | hv
  · exact trivial
  exact absurd hv List.not_mem_nil)
theorem netNow_ok (hN : 66 ≤ N) (hN2 : N < 900000) (hR : R.1 < N ∧ R.2.1 < N ∧ R.2.2 < N) (hok : OK N σ) (hD : DN m N σ R.1) (hB : BR (u 4) bd) (hV : VB m bd) (h0 : bd ≠ noB) : ∃ n N' σ' kn, m_X8_netNow N (CH σ u R) 0 = some (n, N', CH σ' u (n, R.2)) ∧ NE N' σ' n (frB bd.kd bd.D) (u 4) kn ∧ KN bd.P bd.H bd.D bd.kd kn ∧ 66 ≤ n ∧ ((n = R.1 ∧ N' = N) ∨ (R.1 = 0 ∧ n = N ∧ N' = N + 3)) ∧ (∀ i, i ≠ n → i ≠ n + 1 → i ≠ n + 2 → 53 ≤ i → σ' i = σ i) ∧ OK N' σ' := by
  have hP : bd.P ≠ 0 := fun e => h0 ((noB_P hV).mp e)
  have hP4 := hV.d4.2.2.1
  -- lookAt and the rest
  have rest : ∀ (n N' : Nat) (σ1 : Hp) (tn : Bool) (gl kn : Nat → Int32), 66 ≤ n → 66 ≤ N' → NE N' σ1 n tn gl kn → OK N' σ1 → ((gl 0 = u 4 0 ∧ gl 1 = u 4 1 ∧ gl 2 = u 4 2 ∧ gl 4 = u 4 4) → KN bd.P bd.H bd.D bd.kd kn ∧ tn = frB bd.kd bd.D) → ∃ σ' kn', ((gR N' (CH σ1 u (n, R.2)) 0 8 7).bind fun x3 => (gR N' (CH σ1 u (n, R.2)) 0 8 2).bind fun x4 => (m_X4_lookAt N' (CH σ1 u (n, R.2)) x3 x4).bind fun r5 => (gR N' r5 0 8 7).bind fun x6 => some (x6, N', r5)) = some (n, N', CH σ' u (n, R.2)) ∧ NE N' σ' n (frB bd.kd bd.D) (u 4) kn' ∧ KN bd.P bd.H bd.D bd.kd kn' ∧ (∀ i, i ≠ n → i ≠ n + 1 → i ≠ n + 2 → 53 ≤ i → σ' i = σ1 i) ∧ OK N' σ' := fun n N' σ1 tn gl kn hn hN' hNE hok1 hl => by
    have hr7 : ∀ σ2 : Hp, gR N' (CH σ2 u (n, R.2)) 0 8 7 = some n := fun σ2 => gR_of (fs := [.ref 1, .ref 2, .ref 4, .ref 5, .ref 6, .ref 32, .ref 33, rfc n, rfc R.2.1, rfc R.2.2, .int (u 0 10), .int (u 0 11)]) (by omega) (CH_lt (by omega)) (by unfold rfc; rw [if_neg (show ¬ n = 0 by omega)]; rfl)
    have hNE' : NE N' (CH σ1 u (n, R.2)) n tn gl kn := hNE.fr (Nat.le_refl _) (fun i h1 h2 => CH_ge (by omega))
    obtain ⟨τ', kn', l1, l2, l3, l4⟩ := lookAt_ok hNE' (CH_b hN' b4) hB hV (by omega) hl
    have hτ : τ' = CH τ' u (n, R.2) := CH_of (σ := σ1) (fun i hi => l4 i (by omega) (by omega) (by omega))
    rw [hr7, C_r2 hN']
    simp only [Option.bind_some]
    rw [l1]
    simp only [Option.bind_some]
    have e : gR N' τ' 0 8 7 = some n := by rw [hτ]; exact hr7 τ'
    rw [e]
    refine ⟨τ', kn', by rw [← hτ]; rfl, l2, l3, fun i a b d h53 => by rw [l4 i a b d, CH_ge h53], fun i a b => ?_⟩
    by_cases c : i = n ∨ i = n + 1 ∨ i = n + 2
    · rcases c with rfl | rfl | rfl
      · rw [l2.2.1]; exact okE_n l2.1
      · rw [l2.2.2.1]; exact okE_b
      · rw [l2.2.2.2]; exact okE_i
    · rw [l4 i (by omega) (by omega) (by omega), CH_ge a]; exact hok1 i a b
  unfold m_X8_netNow
  rw [C_rv hN, C_q7 hN]
  simp only [Option.bind_some]
  by_cases c : R.1 = 0
  · rw [if_pos c]
    unfold cQ
    simp only []
    have hw := CH_HW (u := u) hN hR hok
    rw [al_ok hw (fun x hx => by simp at hx; omega) (by omega) (by omega) (by omega)]
    simp only [Option.bind_some, mkc]
    rw [CH_dn (by omega)]
    -- the cells of the net
    have ok1 : OK (N + 1) (va_up σ N (.inr (4, [.null, .null, .int 0]))) := hok.mono_up (okE_o (fun v hv => by
      rcases List.mem_cons.mp hv with rfl | hv
      · exact trivial
      rcases List.mem_cons.mp hv with rfl | hv
      · exact trivial
      rcases List.mem_cons.mp hv with rfl | hv
      · exact trivial
      exact absurd hv List.not_mem_nil))
    have hR1 : R.1 < N + 1 ∧ R.2.1 < N + 1 ∧ R.2.2 < N + 1 := by omega
    rw [al_ok (CH_HW (u := u) (by omega) hR1 ok1) (fun x hx => by simp at hx; omega) (by omega) (by omega) (by omega)]
    simp only [Option.bind_some]
    unfold m_X4_init
    rw [al_ok (CH_HW (u := u) (by omega) hR1 ok1) (fun x hx => by simp at hx; omega) (by omega) (by omega) (by omega)]
    simp only [Option.bind_some, mkc]
    rw [CH_dn (by omega)]
    have ok2 := ok1.mono_up (e := bC (fun _ => 0)) okE_b
    have hR2 : R.1 < N + 1 + 1 ∧ R.2.1 < N + 1 + 1 ∧ R.2.2 < N + 1 + 1 := by omega
    rw [show (.inr (2, [.int 0, .int 0, .int 0, .int 0, .int 0, .int 0]) : va_E) = bC (fun _ => 0) from rfl, al_ok (CH_HW (u := u) (by omega) hR2 ok2) (fun x hx => by simp at hx; omega) (by omega) (by omega) (by omega)]
    simp only [Option.bind_some]
    unfold m_X2_init
    simp only [Option.bind_some]
    rw [nb_ok (by omega)]
    simp only [Option.bind_some]
    rw [pV_of (i := N) (fs := [.null, .null, .int 0]) (by omega) (by rw [CH_ge (by omega), vup_n (by omega), vup_s]) (by simp), CH_dn (by omega)]
    simp only [Option.bind_some, List.set]
    have ok3 : OK (N + 1 + 1) (va_up (va_up (va_up σ N (.inr (4, [.null, .null, .int 0]))) (N + 1) (bC fun _ => 0)) N (.inr (4, [.ref (N + 1), .null, .int 0]))) := ok2.up (okE_o (fun v hv => by
      rcases List.mem_cons.mp hv with rfl | hv
      · show N + 1 < N + 1 + 1; omega
      rcases List.mem_cons.mp hv with rfl | hv
      · exact trivial
      rcases List.mem_cons.mp hv with rfl | hv
      · exact trivial
      exact absurd hv List.not_mem_nil))
    rw [al_ok (CH_HW (u := u) (by omega) hR2 ok3) (fun x hx => by simp at hx; omega) (by omega) (by omega) (by omega)]
    simp only [Option.bind_some, mkc]
    rw [CH_dn (by omega), pV_of (i := N) (fs := [.ref (N + 1), .null, .int 0]) (by omega) (by rw [CH_ge (by omega), vup_n (by omega), vup_s]) (by simp), CH_dn (by omega)]
    simp only [Option.bind_some, List.set]
    rw [nb_ok (by omega)]
    simp only [Option.bind_some]
    rw [C_p7 (by omega) (by omega)]
    simp only [Option.bind_some]
    have ok4 := (ok3.mono_up (e := iR (fun _ => 0)) okE_i).up (k := N) (e := nObj N 0) (okE_n (by omega))
    obtain ⟨σ', kn', r1, r2, r3, r4, r5⟩ := rest N (N + 1 + 1 + 1) (va_up (va_up (va_up (va_up (va_up σ N (.inr (4, [.null, .null, .int 0]))) (N + 1) (bC fun _ => 0)) N (.inr (4, [.ref (N + 1), .null, .int 0]))) (N + 1 + 1) (iR (fun _ => 0))) N (nObj N 0)) false (fun _ => 0) (fun _ => 0) hN (by omega) ⟨by omega, vup_s, by rw [vup_n (by omega), vup_n (by omega), vup_n (by omega), vup_s], by rw [vup_n (by omega), vup_s]⟩ ok4 (fun e => absurd e.1 (by
      rw [hB.1]
      intro e'
      have := (nI_eq (show 0 < 2 ^ 31 by omega) (by omega)).mp e'
      omega))
    exact ⟨N, N + 1 + 1 + 1, σ', kn', r1, r2, r3, hN, Or.inr ⟨c, rfl, rfl⟩, fun i a b d h53 => by rw [r4 i a b d h53, vup_n a, vup_n d, vup_n a, vup_n b, vup_n a], r5⟩
  · rw [if_neg c]
    unfold cQ
    simp only [Option.bind_some]
    rcases hD with e | ⟨d1, b, tn, gl, kn, d2, d3, d4, d5, d6⟩
    · exact absurd e c
    · have hRe : R = (R.1, R.2) := rfl
      obtain ⟨σ', kn', r1, r2, r3, r4, r5⟩ := rest R.1 N σ tn gl kn d1 hN d2 hok (fun e => by
        obtain ⟨s1, s2, s3, s4⟩ := d3.same hB d4 hV e
        rw [← s1, ← s2, ← s3, ← s4]
        exact ⟨d5, d6⟩)
      exact ⟨R.1, N, σ', kn', r1, r2, r3, d1, Or.inl ⟨rfl, rfl⟩, r4, r5⟩
end NN
