/-! the class: searched -/
def lR (g : Nat → Int64) : va_E := .inl (1, 4096, .inr (.inl g))
/-- a search of a board -/
def SB (m N : Nat) (σ : Hp) (p : Nat) (b : AB) : Prop := ∃ go f q st lm ah tn S, SE N σ p go f q st lm ah ∧ BR go b ∧ VB m b ∧ b ≠ noB ∧ frl b.D b.kd tn ∧ cI tn b S S.n 0 ∧ SR f q st lm ah S ∧ NT (mms b.P b.H b.D b.kd) f S S.n ∧ f 10 = bkI (bkR (lgl b.P b.H b.D b.kd) (cnx tn b.H b.D b.kd) (stx b % 4096) S S.n)
def DS (m N : Nat) (σ : Hp) (p : Nat) : Prop := p = 0 ∨ (66 ≤ p ∧ ∃ b, SB m N σ p b)
def DL (N : Nat) (σ : Hp) (pl pn : Nat) : Prop := pl = 0 ∨ (66 ≤ pl ∧ pl + 2 < N ∧ pn ≠ 0 ∧ ∃ (sw : Bool) (W1 W2 : Nat → Int64) (od : Int32), σ pl = .inr (3, [.ref (if sw then pl + 2 else pl + 1), .ref (if sw then pl + 1 else pl + 2), .ref pn, .int od]) ∧ σ (pl + 1) = lR W1 ∧ σ (pl + 2) = lR W2)
def DC (m N : Nat) (σ : Hp) (R : CR) : Prop := 66 ≤ N ∧ N ≤ 66 + (if R.1 = 0 then 0 else 3) + (if R.2.1 = 0 then 0 else 6) + (if R.2.2 = 0 then 0 else 3) ∧ (R.1 < N ∧ R.2.1 < N ∧ R.2.2 < N) ∧ OK N σ ∧ DN m N σ R.1 ∧ DS m N σ R.2.1 ∧ DL N σ R.2.2 R.1 ∧ (R.1 = 0 ∨ R.2.1 = 0 ∨ R.1 + 3 ≤ R.2.1 ∨ R.2.1 + 6 ≤ R.1) ∧ (R.1 = 0 ∨ R.2.2 = 0 ∨ R.1 + 3 ≤ R.2.2 ∨ R.2.2 + 3 ≤ R.1) ∧ (R.2.1 = 0 ∨ R.2.2 = 0 ∨ R.2.1 + 6 ≤ R.2.2 ∨ R.2.2 + 3 ≤ R.2.1)
theorem SE.fr {N N' p : Nat} {τ τ' : Hp} {go f q st lm ah : Nat → Int32} (h : SE N τ p go f q st lm ah) (hN : N ≤ N') (e : ∀ i, p ≤ i → i ≤ p + 5 → τ' i = τ i) : SE N' τ' p go f q st lm ah :=
  ⟨by have := h.1; omega, by rw [e p (by omega) (by omega)]; exact h.2.1, by rw [e (p + 1) (by omega) (by omega)]; exact h.2.2.1, by rw [e (p + 2) (by omega) (by omega)]; exact h.2.2.2.1, by rw [e (p + 3) (by omega) (by omega)]; exact h.2.2.2.2.1, by rw [e (p + 4) (by omega) (by omega)]; exact h.2.2.2.2.2.1, by rw [e (p + 5) (by omega) (by omega)]; exact h.2.2.2.2.2.2⟩
theorem SB.fr {m N N' p : Nat} {τ τ' : Hp} {b : AB} (h : SB m N τ p b) (hN : N ≤ N') (e : ∀ i, p ≤ i → i ≤ p + 5 → τ' i = τ i) : SB m N' τ' p b := by
  obtain ⟨go, f, q, st, lm, ah, tn, S, h1, h2⟩ := h
  exact ⟨go, f, q, st, lm, ah, tn, S, h1.fr hN e, h2⟩
theorem DL.fr {N N' pl pn pn' : Nat} {τ τ' : Hp} (h : DL N τ pl pn) (hN : N ≤ N') (hp : pl ≠ 0 → pn' = pn) (e : pl ≠ 0 → ∀ i, pl ≤ i → i ≤ pl + 2 → τ' i = τ i) : DL N' τ' pl pn' := by
  rcases h with h | ⟨h1, h2, h3, sw, W1, W2, od, h4, h5, h6⟩
  · exact Or.inl h
  · have e := e (by omega)
    have hp := hp (by omega)
    exact Or.inr ⟨h1, by omega, by rw [hp]; exact h3, sw, W1, W2, od, by rw [e pl (by omega) (by omega), hp]; exact h4, by rw [e (pl + 1) (by omega) (by omega)]; exact h5, by rw [e (pl + 2) (by omega) (by omega)]; exact h6⟩
theorem VB.mono {m m' : Nat} {b : AB} (h : VB m b) (hm : m ≤ m') : VB m' b := by
  rcases h with h | ⟨h1, h2, h3, h4, h5, h6, h7⟩
  · exact Or.inl h
  · exact Or.inr ⟨h1, h2, h3, h4, h5, by omega, h7⟩
theorem DC.mono {m m' N : Nat} {σ : Hp} {R : CR} (h : DC m N σ R) (hm : m ≤ m') : DC m' N σ R := by
  obtain ⟨h1, h2, h3, h4, h5, h6, h7⟩ := h
  refine ⟨h1, h2, h3, h4, ?_, ?_, h7⟩
  · rcases h5 with h | ⟨a1, b, tn, gl, kn, a2, a3, a4, a5⟩
    · exact Or.inl h
    · exact Or.inr ⟨a1, b, tn, gl, kn, a2, a3, a4.mono hm, a5⟩
  · rcases h6 with h | ⟨a1, b, go, f, q, st, lm, ah, tn, S, a2, a3, a4, a5⟩
    · exact Or.inl h
    · exact Or.inr ⟨a1, b, go, f, q, st, lm, ah, tn, S, a2, a3, a4.mono hm, a5⟩
theorem HS_self {n p : Nat} {τ : Hp} {kn f q st lm ah : Nat → Int32} (h1 : τ (n + 2) = iR kn) (h2 : τ p = sObj p f) (h3 : τ (p + 2) = iR q) (h4 : τ (p + 3) = iR st) (h5 : τ (p + 4) = iR lm) (h6 : τ (p + 5) = iR ah) : HS τ n p kn f q st lm ah = τ := by
  funext i
  unfold HS
  by_cases c1 : i = n + 2
  · rw [if_pos c1, c1, h1]
  rw [if_neg c1]
  by_cases c2 : i = p
  · rw [if_pos c2, c2, h2]
  rw [if_neg c2]
  by_cases c3 : i = p + 2
  · rw [if_pos c3, c3, h3]
  rw [if_neg c3]
  by_cases c4 : i = p + 3
  · rw [if_pos c4, c4, h4]
  rw [if_neg c4]
  by_cases c5 : i = p + 4
  · rw [if_pos c5, c5, h5]
  rw [if_neg c5]
  by_cases c6 : i = p + 5
  · rw [if_pos c6, c6, h6]
  rw [if_neg c6]
theorem okE_s {N p : Nat} {f : Nat → Int32} (h : p + 5 < N) : okE N (sObj p f) := okE_o (fun v hv => by
  rcases List.mem_cons.mp hv with rfl | hv
  · show p + 1 < N; omega
  rcases List.mem_cons.mp hv with rfl | hv
  · show p + 2 < N; omega
  rcases List.mem_cons.mp hv with rfl | hv
  · show p + 3 < N; omega
  rcases List.mem_cons.mp hv with rfl | hv
  · show p + 4 < N; omega
  rcases List.mem_cons.mp hv with rfl | hv
  · show p + 5 < N; omega
  rcases List.mem_cons.mp hv with rfl | hv
  · exact trivial
  rcases List.mem_cons.mp hv with rfl | hv
  · exact trivial
  rcases List.mem_cons.mp hv with rfl | hv
  · exact trivial
  rcases List.mem_cons.mp hv with rfl | hv
  · exact trivial
  rcases List.mem_cons.mp hv with rfl | hv
  · exact trivial
  rcases List.mem_cons.mp hv with rfl | hv
  · exact trivial
  exact absurd hv List.not_mem_nil)
section SB1
variable {N p c m : Nat} {τ : Hp} {go f q st lm ah gb : Nat → Int32} {bd : AB}
theorem hasFut_ok {c2 : Nat} {g g2 : Nat → Int32} (h : BH N τ c g) (h2 : BH N τ c2 g2) : m_X2_hasFutureOf N τ c c2 = some (bI (decide ((g 0 = g2 0 ∧ g 1 = g2 1 ∧ g 2 = g2 2 ∧ g 4 = g2 4) ∧ g 5 = g2 5 ∧ g 3 &&& 1 = g2 3 &&& 1))) := by
  unfold m_X2_hasFutureOf
  rw [h.rv, hasLaw_ok h h2, h.i5, h2.i5, h.i3, h2.i3]
  simp only [Option.bind_some]
  by_cases c0 : g 0 = g2 0 ∧ g 1 = g2 1 ∧ g 2 = g2 2 ∧ g 4 = g2 4
  · rw [decide_eq_true c0, if_neg (show ¬ bI true = 0 by decide +kernel)]
    by_cases c1 : g 5 = g2 5
    · rw [if_pos c1]
      by_cases c2 : g 3 &&& 1 = g2 3 &&& 1
      · rw [if_pos c2, decide_eq_true ⟨c0, c1, c2⟩]; rfl
      · rw [if_neg c2, decide_eq_false (fun e => c2 e.2.2)]; rfl
    · rw [if_neg c1, decide_eq_false (fun e => c1 e.2.1)]; rfl
  · rw [decide_eq_false c0, if_pos (show bI false = 0 from rfl), decide_eq_false (fun e => c0 e.1)]; rfl
/-- the search begins -/
theorem sbegin_ok (h : SE N τ p go f q st lm ah) (hb : BH N τ c gb) (hc : c < p ∨ p + 6 ≤ c) : ∃ τ' f' st', m_X6_begin N τ p c = some τ' ∧ SE N τ' p gb f' q st' lm ah ∧ (∀ x, x < 8192 → st' x = -1) ∧ (f' 6 = 0 ∧ f' 7 = -1 ∧ f' 8 = 0 ∧ f' 9 = 0 ∧ f' 10 = -1000000) ∧ ∀ i, i < p ∨ p + 6 ≤ i → τ' i = τ i := by
  obtain ⟨h1, h2, h3, h4, h5, h6, h7⟩ := h
  unfold m_X6_begin
  rw [rv_of (by omega) h2, gR_of (x := p + 1) (by omega) h2 rfl]
  simp only [Option.bind_some]
  rw [take_ok (c := p + 1) ⟨by omega, h3⟩ hb (by omega)]
  simp only [Option.bind_some]
  have e2 : va_up τ (p + 1) (bC gb) p = sObj p f := by rw [vup_n (by omega)]; exact h2
  rw [gR_of (x := p + 3) (by omega) e2 rfl]
  simp only [Option.bind_some]
  rw [fill_ok (i := p + 3) (by omega) (by omega) (show va_up τ (p + 1) (bC gb) (p + 3) = .inl (0, 8192, .inl st) by rw [vup_n (by omega)]; exact h5)]
  simp only [Option.bind_some]
  generalize hst : (fun k => if k < 8192 then (-1 : Int32) else st k) = st1
  have hp0 : ∀ (σ1 : Hp) (g : Nat → Int32) (j : Nat) (v : Int32), 5 ≤ j ∧ j ≤ 10 → σ1 p = sObj p g → pV N σ1 p 6 j (.int v) = some (va_up σ1 p (sObj p (upd g j v))) := fun σ1 g j v hj e => by
    rw [pV_of (by omega) e (by rcases (show j = 5 ∨ j = 6 ∨ j = 7 ∨ j = 8 ∨ j = 9 ∨ j = 10 by omega) with rfl | rfl | rfl | rfl | rfl | rfl <;> simp)]
    congr 2
    rcases (show j = 5 ∨ j = 6 ∨ j = 7 ∨ j = 8 ∨ j = 9 ∨ j = 10 by omega) with rfl | rfl | rfl | rfl | rfl | rfl <;> rfl
  rw [hp0 _ f 5 0 (by omega) (by rw [vup_n (by omega)]; exact e2)]
  simp only [Option.bind_some]
  rw [hp0 _ _ 6 0 (by omega) vup_s, vup_vup]
  simp only [Option.bind_some]
  rw [hp0 _ _ 7 (-1) (by omega) vup_s, vup_vup]
  simp only [Option.bind_some]
  rw [hp0 _ _ 8 0 (by omega) vup_s, vup_vup]
  simp only [Option.bind_some]
  rw [hp0 _ _ 9 0 (by omega) vup_s, vup_vup]
  simp only [Option.bind_some]
  rw [hp0 _ _ 10 (-1000000) (by omega) vup_s, vup_vup]
  refine ⟨_, _, st1, rfl, ⟨h1, vup_s, by rw [vup_n (by omega), vup_n (by omega), vup_s], by rw [vup_n (by omega), vup_n (by omega), vup_n (by omega)]; exact h4, by rw [vup_n (by omega), vup_s]; rfl, by rw [vup_n (by omega), vup_n (by omega), vup_n (by omega)]; exact h6, by rw [vup_n (by omega), vup_n (by omega), vup_n (by omega)]; exact h7⟩, fun x hx => by rw [← hst]; exact if_pos hx, ⟨rfl, rfl, rfl, rfl, rfl⟩, fun i hi => by rw [vup_n (by omega), vup_n (by omega), vup_n (by omega)]⟩
theorem start_ok {n : Nat} {tn : Bool} {gl kn : Nat → Int32} (h : NE N τ n tn gl kn) (hB : BR gl bd) (hV : VB m bd) (hm : m < 2 ^ 30) : m_X4_start N τ n = some (nI (cpi tn (stx bd))) := by
  obtain ⟨h1, h2, h3, h4⟩ := h
  have ha := arn_lt hV
  have hM := hV.d4.2.2.2.2.1
  have hl : BH N τ (n + 1) gl := ⟨by omega, h3⟩
  unfold m_X4_start
  rw [rv_of (by omega) h2, gR_of (x := n + 1) (fs := [.ref (n + 1), .ref (n + 2), .int (tI tn)]) (by omega) h2 rfl]
  simp only [Option.bind_some]
  rw [hl.i5, hl.i3, hB.2.2.2.2.2, hB.2.2.2.1, gI_of (x := tI tn) (fs := [.ref (n + 1), .ref (n + 2), .int (tI tn)]) (by omega) h2 rfl]
  simp only [Option.bind_some]
  rw [show nI bd.M &&& 1 = nI (bd.M % 2) from pk_andN (k := 1) (by omega) (by decide +kernel)]
  unfold cpi
  have hse := stx_eq (b := bd)
  by_cases c : bd.M % 2 = 0
  · rw [c, if_pos (show nI 0 = 0 from rfl), show nI (arn bd) ||| 0 = nI (arn bd ||| 0) from ni_or _ 0, Nat.or_zero]
    rw [c] at hse
    congr 2
    cases tn with
    | true => show _ = stx bd; omega
    | false => show _ = stx bd % 4096; omega
  · rw [show bd.M % 2 = 1 by omega, if_neg (show ¬ nI 1 = 0 by decide +kernel)]
    rw [show bd.M % 2 = 1 by omega] at hse
    congr 1
    cases tn with
    | true =>
      show nI (arn bd) ||| 4096 = nI (stx bd)
      rw [show nI (arn bd) ||| 4096 = nI (arn bd ||| 4096) from ni_or _ 4096, or4096 ha]
      congr 1; omega
    | false =>
      show nI (arn bd) ||| 0 = nI (stx bd % 4096)
      rw [show nI (arn bd) ||| 0 = nI (arn bd ||| 0) from ni_or _ 0, Nat.or_zero]
      congr 1; omega
end SB1
