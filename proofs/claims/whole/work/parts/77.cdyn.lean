/-! cells that are made later -/
/-- a cell that speaks of numbers below N alone -/
def okE (N : Nat) (e : va_E) : Prop := ∀ cy ad ad' : Nat → Nat, (∀ j, j < N → ad j = ad' j) → cvE cy ad e = cvE cy ad' e
theorem okE.mono {N N' : Nat} {e : va_E} (h : okE N e) (hN : N ≤ N') : okE N' e := fun cy ad ad' hh => h cy ad ad' (fun j hj => hh j (by omega))
theorem okE_i {N t n : Nat} {g : Nat → Int32} : okE N (.inl (t, n, .inl g)) := fun _ _ _ _ => rfl
theorem okE_l {N t n : Nat} {g : Nat → Int64} : okE N (.inl (t, n, .inr (.inl g))) := fun _ _ _ _ => rfl
theorem okE_b {N : Nat} {g : Nat → Int32} : okE N (bC g) := fun _ _ _ _ => rfl
theorem okE_r {N t n : Nat} {f : Nat → Option Nat} (h : ∀ k r, f k = some r → r < N) : okE N (.inl (t, n, .inr (.inr (.inr (.inr f))))) := fun cy ad ad' hh => by
  show (.inl (cy t, n, .inr (.inr (.inr (.inr (fun k => (f k).map ad))))) : va_E) = .inl (cy t, n, .inr (.inr (.inr (.inr (fun k => (f k).map ad')))))
  have : (fun k => (f k).map ad) = (fun k => (f k).map ad') := by
    funext k
    cases e : f k with
    | none => rfl
    | some r => show some (ad r) = some (ad' r); rw [hh r (h k r e)]
  rw [this]
def okV (N : Nat) : Value → Prop
  | .ref r => r < N
  | _ => True
theorem okE_o {N ci : Nat} {fs : List Value} (h : ∀ v ∈ fs, okV N v) : okE N (.inr (ci, fs)) := fun cy ad ad' hh => by
  show Sum.inr (ci, fs.map (cvV ad)) = Sum.inr (ci, fs.map (cvV ad'))
  have : fs.map (cvV ad) = fs.map (cvV ad') := List.map_congr_left (fun v hv => by
    have := h v hv
    cases v with
    | ref r => show Value.ref (ad r) = Value.ref (ad' r); rw [hh r this]
    | _ => rfl)
  rw [this]
theorem HW_of {N : Nat} {σ : Hp} (h : ∀ i, i < N → okE N (σ i)) : HW N σ := fun i hi cy ad ad' hh => h i hi cy ad ad' hh
theorem okE_c {N : Nat} {g : Nat → Int32} {R : CR} (hN : 66 ≤ N) (hR : R.1 < N ∧ R.2.1 < N ∧ R.2.2 < N) (i : Nat) (hi : i < 53) : okE N (cCel g R i) := by
  have hrf : ∀ q, q < N → okV N (rfc q) := fun q hq => by
    unfold rfc
    by_cases c : q = 0
    · rw [if_pos c]; exact trivial
    · rw [if_neg c]; exact hq
  unfold cCel
  by_cases c0 : i = 0
  · rw [if_pos c0]
    refine okE_o (fun v hv => ?_)
    rcases List.mem_cons.mp hv with rfl | hv
    · show 1 < N; omega
    rcases List.mem_cons.mp hv with rfl | hv
    · show 2 < N; omega
    rcases List.mem_cons.mp hv with rfl | hv
    · show 4 < N; omega
    rcases List.mem_cons.mp hv with rfl | hv
    · show 5 < N; omega
    rcases List.mem_cons.mp hv with rfl | hv
    · show 6 < N; omega
    rcases List.mem_cons.mp hv with rfl | hv
    · show 32 < N; omega
    rcases List.mem_cons.mp hv with rfl | hv
    · show 33 < N; omega
    rcases List.mem_cons.mp hv with rfl | hv
    · exact hrf _ hR.1
    rcases List.mem_cons.mp hv with rfl | hv
    · exact hrf _ hR.2.1
    rcases List.mem_cons.mp hv with rfl | hv
    · exact hrf _ hR.2.2
    rcases List.mem_cons.mp hv with rfl | hv
    · exact trivial
    rcases List.mem_cons.mp hv with rfl | hv
    · exact trivial
    exact absurd hv List.not_mem_nil
  rw [if_neg c0]
  by_cases c1 : i = 1
  · rw [if_pos c1]
    refine okE_r (fun k r e => ?_)
    by_cases c : k < 8
    · rw [if_pos c] at e; have := Option.some.inj e; omega
    · rw [if_neg c] at e; exact absurd e (by simp)
  rw [if_neg c1]
  by_cases c2 : i = 2
  · rw [if_pos c2]
    refine okE_o (fun v hv => ?_)
    rcases List.mem_cons.mp hv with rfl | hv
    · show 3 < N; omega
    rcases List.mem_cons.mp hv with rfl | hv
    · exact trivial
    rcases List.mem_cons.mp hv with rfl | hv
    · exact trivial
    rcases List.mem_cons.mp hv with rfl | hv
    · exact trivial
    rcases List.mem_cons.mp hv with rfl | hv
    · exact trivial
    exact absurd hv List.not_mem_nil
  rw [if_neg c2]
  by_cases c3 : i = 3
  · rw [if_pos c3]; exact okE_i
  rw [if_neg c3]
  by_cases c6 : i = 6
  · rw [if_pos c6]
    refine okE_o (fun v hv => ?_)
    rcases List.mem_cons.mp hv with rfl | hv
    · show 7 < N; omega
    rcases List.mem_cons.mp hv with rfl | hv
    · exact trivial
    rcases List.mem_cons.mp hv with rfl | hv
    · exact trivial
    exact absurd hv List.not_mem_nil
  rw [if_neg c6]
  by_cases c7 : i = 7
  · rw [if_pos c7]
    refine okE_r (fun k r e => ?_)
    by_cases c : k < 24
    · rw [if_pos c] at e; have := Option.some.inj e; omega
    · rw [if_neg c] at e; exact absurd e (by simp)
  rw [if_neg c7]
  by_cases c32 : i = 32
  · rw [if_pos c32]
    refine okE_r (fun k r e => ?_)
    by_cases c : k < 2
    · rw [if_pos c] at e; have := Option.some.inj e; omega
    · rw [if_neg c] at e; exact absurd e (by simp)
  rw [if_neg c32]
  by_cases c33 : i = 33
  · rw [if_pos c33]
    refine okE_o (fun v hv => ?_)
    rcases List.mem_cons.mp hv with rfl | hv
    · show 34 < N; omega
    rcases List.mem_cons.mp hv with rfl | hv
    · exact trivial
    rcases List.mem_cons.mp hv with rfl | hv
    · exact trivial
    rcases List.mem_cons.mp hv with rfl | hv
    · exact trivial
    rcases List.mem_cons.mp hv with rfl | hv
    · exact trivial
    rcases List.mem_cons.mp hv with rfl | hv
    · exact trivial
    exact absurd hv List.not_mem_nil
  rw [if_neg c33]
  by_cases c34 : i = 34
  · rw [if_pos c34]; exact okE_i
  rw [if_neg c34]
  by_cases c35 : 35 ≤ i ∧ i < 51
  · rw [if_pos c35]
    by_cases co : i % 2 = 1
    · rw [if_pos co]
      refine okE_o (fun v hv => ?_)
      rcases List.mem_cons.mp hv with rfl | hv
      · exact trivial
      rcases List.mem_cons.mp hv with rfl | hv
      · exact trivial
      rcases List.mem_cons.mp hv with rfl | hv
      · show i + 1 < N; omega
      exact absurd hv List.not_mem_nil
    · rw [if_neg co]; exact okE_i
  · rw [if_neg c35]; exact okE_b
theorem CH_HW {N : Nat} {σ : Hp} {u : Nat → Nat → Int32} {R : CR} (hN : 66 ≤ N) (hR : R.1 < N ∧ R.2.1 < N ∧ R.2.2 < N) (h : ∀ i, 53 ≤ i → i < N → okE N (σ i)) : HW N (CH σ u R) := HW_of (fun i hi => by
  by_cases c : i < 53
  · rw [CH_lt c]; exact okE_c hN hR i c
  · rw [CH_ge (by omega)]; exact h i (by omega) hi)
theorem CH_dn {σ : Hp} {u : Nat → Nat → Int32} {R : CR} {i : Nat} (h : 53 ≤ i) (e : va_E) : va_up (CH σ u R) i e = CH (va_up σ i e) u R := by
  funext j
  by_cases c : j = i
  · subst c; rw [vup_s, CH_ge h, vup_s]
  · rw [vup_n c]
    by_cases h2 : j < 53
    · rw [CH_lt h2, CH_lt h2]
    · rw [CH_ge (by omega), CH_ge (by omega), vup_n c]
theorem C_p7 {N : Nat} {σ : Hp} {u : Nat → Nat → Int32} {R : CR} (hN : 66 ≤ N) {a : Nat} (ha : a ≠ 0) : pV N (CH σ u R) 0 8 7 (.ref a) = some (CH σ u (a, R.2)) := by
  rw [pV_of (by omega) (CH_lt (by omega)) (by simp)]
  refine ofN ?_
  funext j
  by_cases c : j = 0
  · subst c
    rw [vup_s, CH_lt (by omega)]
    unfold cCel rfc
    simp only [if_true, List.set]
    rw [if_neg ha]; rfl
  · rw [vup_n c]
    by_cases h2 : j < 53
    · rw [CH_lt h2, CH_lt h2]; unfold cCel; rw [if_neg c, if_neg c]
    · rw [CH_ge (by omega), CH_ge (by omega)]
theorem C_p8 {N : Nat} {σ : Hp} {u : Nat → Nat → Int32} {R : CR} (hN : 66 ≤ N) {a : Nat} (ha : a ≠ 0) : pV N (CH σ u R) 0 8 8 (.ref a) = some (CH σ u (R.1, a, R.2.2)) := by
  rw [pV_of (by omega) (CH_lt (by omega)) (by simp)]
  refine ofN ?_
  funext j
  by_cases c : j = 0
  · subst c
    rw [vup_s, CH_lt (by omega)]
    unfold cCel rfc
    simp only [if_true, List.set]
    rw [if_neg ha]; rfl
  · rw [vup_n c]
    by_cases h2 : j < 53
    · rw [CH_lt h2, CH_lt h2]; unfold cCel; rw [if_neg c, if_neg c]
    · rw [CH_ge (by omega), CH_ge (by omega)]
theorem C_p9 {N : Nat} {σ : Hp} {u : Nat → Nat → Int32} {R : CR} (hN : 66 ≤ N) {a : Nat} (ha : a ≠ 0) : pV N (CH σ u R) 0 8 9 (.ref a) = some (CH σ u (R.1, R.2.1, a)) := by
  rw [pV_of (by omega) (CH_lt (by omega)) (by simp)]
  refine ofN ?_
  funext j
  by_cases c : j = 0
  · subst c
    rw [vup_s, CH_lt (by omega)]
    unfold cCel rfc
    simp only [if_true, List.set]
    rw [if_neg ha]; rfl
  · rw [vup_n c]
    by_cases h2 : j < 53
    · rw [CH_lt h2, CH_lt h2]; unfold cCel; rw [if_neg c, if_neg c]
    · rw [CH_ge (by omega), CH_ge (by omega)]
theorem al_ok {N : Nat} {σ : Hp} {l : List Nat} {c s mc ms : Nat} (h1 : HW N σ) (h2 : ∀ x ∈ l, x < N) (h3 : N < 1000000) (h4 : c ≤ mc) (h5 : s ≤ ms) : al N σ l c s mc ms = some () := by
  unfold al
  rw [if_pos ⟨h1, fun x hx => Or.inl (h2 x hx), h3, h4, h5⟩]
theorem nb_ok {N : Nat} (h : N ≤ 1000000) : nb N = some () := if_pos h
/-- whether there is a frail disc -/
def frB (kd : Nat → Nat) : Nat → Bool
  | 0 => false
  | d + 1 => frB kd d || (kd d == 5)
theorem frB_iff {kd : Nat → Nat} : ∀ D, frB kd D = true ↔ ∃ d, d < D ∧ kd d = 5 := by
  intro D
  induction D with
  | zero => exact ⟨fun h => absurd h (by simp [frB]), fun ⟨d, h, _⟩ => absurd h (by omega)⟩
  | succ D ih =>
    rw [frB, Bool.or_eq_true, ih, beq_iff_eq]
    constructor
    · rintro (⟨d, h1, h2⟩ | h)
      · exact ⟨d, by omega, h2⟩
      · exact ⟨D, by omega, h⟩
    · rintro ⟨d, h1, h2⟩
      by_cases c : d = D
      · subst c; exact Or.inr h2
      · exact Or.inl ⟨d, by omega, h2⟩
theorem frB_frl {D : Nat} {kd : Nat → Nat} : frl D kd (frB kd D) := fun e d hd h5 => by
  have := (frB_iff D).mpr ⟨d, hd, h5⟩
  rw [e] at this
  exact absurd this (by decide)
section CD
variable {N m : Nat} {τ : Hp} {c : Nat} {g : Nat → Int32} {P H D : Nat} {kd : Nat → Nat}
theorem frail_loop (h : BH N τ c g) (hL : BL g P H D kd) : ∀ (r t d : Nat), d + r = D → r < t → L_X2_hasFrail_4 N τ c t (bI (frB kd d)) (nI d) = some (bI (frB kd D)) := by
  have hLL := hL
  obtain ⟨l1, l2, l3, hP, h6, hH, _, hk⟩ := hL
  intro r
  induction r with
  | zero =>
    intro t d hd ht
    obtain ⟨t, rfl⟩ : ∃ k, t = k + 1 := ⟨t - 1, by omega⟩
    obtain rfl : d = D := by omega
    rw [L_X2_hasFrail_4.eq_2, h.i1, l2]
    simp only [Option.bind_some]
    rw [if_pos (nI_le (Nat.le_refl _) (by omega))]
  | succ r ih =>
    intro t d hd ht
    obtain ⟨t, rfl⟩ : ∃ k, t = k + 1 := ⟨t - 1, by omega⟩
    have hrec := ih t (d + 1) (by omega) (by omega)
    rw [frB] at hrec
    rw [L_X2_hasFrail_4.eq_2, h.i1, l2]
    simp only [Option.bind_some]
    rw [if_neg (nI_ge (by omega) (by omega)), nI_1]
    cases e : frB kd d with
    | true =>
      rw [e, Bool.true_or] at hrec
      rw [if_neg (show ¬ bI true = 0 by decide +kernel)]
      exact hrec
    | false =>
      rw [e, Bool.false_or] at hrec
      rw [if_pos (show bI false = 0 from rfl), kindOf_ok h hLL (by omega)]
      simp only [Option.bind_some]
      have := hk d (by omega)
      by_cases c5 : kd d = 5
      · rw [if_pos (show nI (kd d) = 5 by rw [c5]; rfl)]
        rw [c5] at hrec
        exact hrec
      · rw [if_neg (show ¬ nI (kd d) = 5 from ni_ne (b := 5) (by omega) (by omega) c5)]
        rw [beq_eq_false_iff_ne.mpr c5] at hrec
        exact hrec
theorem hasFrail_ok (h : BH N τ c g) (hL : BL g P H D kd) : m_X2_hasFrail N τ c = some (bI (frB kd D)) := by
  have h6 := hL.2.2.2.2.1
  unfold m_X2_hasFrail
  rw [h.rv]
  simp only [Option.bind_some]
  have := frail_loop h hL D fu 0 (by omega) (by show _ < 20000; omega)
  rw [show bI (frB kd 0) = 0 from rfl, nI_0] at this
  rw [this]
  simp only [Option.bind_some]
  rw [show zb (bI (frB kd D)) = some () by cases frB kd D <;> decide +kernel]
  rfl
theorem hasLaw_ok {c2 : Nat} {g2 : Nat → Int32} (h : BH N τ c g) (h2 : BH N τ c2 g2) : m_X2_hasLawOf N τ c c2 = some (bI (decide (g 0 = g2 0 ∧ g 1 = g2 1 ∧ g 2 = g2 2 ∧ g 4 = g2 4))) := by
  unfold m_X2_hasLawOf
  rw [h.rv, h.i0, h.i1, h.i2, h.i4, h2.i0, h2.i1, h2.i2, h2.i4]
  simp only [Option.bind_some]
  by_cases c0 : g 0 = g2 0
  · rw [if_pos c0]
    by_cases c1 : g 1 = g2 1
    · rw [if_pos c1]
      by_cases c2 : g 2 = g2 2
      · rw [if_pos c2]
        by_cases c4 : g 4 = g2 4
        · rw [if_pos c4, decide_eq_true ⟨c0, c1, c2, c4⟩]; rfl
        · rw [if_neg c4, decide_eq_false (fun e => c4 e.2.2.2)]; rfl
      · rw [if_neg c2, decide_eq_false (fun e => c2 e.2.2.1)]; rfl
    · rw [if_neg c1, decide_eq_false (fun e => c1 e.2.1)]; rfl
  · rw [if_neg c0, decide_eq_false (fun e => c0 e.1)]; rfl
end CD
/-- two boards of one law -/
theorem BR.same {m : Nat} {g g' : Nat → Int32} {b b' : AB} (h : BR g b) (h' : BR g' b') (hV : VB m b) (hV' : VB m b') (e : g 0 = g' 0 ∧ g 1 = g' 1 ∧ g 2 = g' 2 ∧ g 4 = g' 4) : b.P = b'.P ∧ b.H = b'.H ∧ b.D = b'.D ∧ b.kd = b'.kd := by
  obtain ⟨_, d6, dP, dH, _, dk⟩ := hV.d4
  obtain ⟨_, d6', dP', dH', _, dk'⟩ := hV'.d4
  obtain ⟨h0, h1, h2, h3, h4, h5⟩ := h
  obtain ⟨g0, g1, g2, g3, g4, g5⟩ := h'
  obtain ⟨e0, e1, e2, e4⟩ := e
  rw [h0, g0, nI_eq (by omega) (by omega)] at e0
  rw [h1, g1, nI_eq (by omega) (by omega)] at e1
  rw [h2, g2, nI_eq (by omega) (by omega)] at e2
  rw [h4, g4, nI_eq (by have := enK_lt dk; omega) (by have := enK_lt dk'; omega)] at e4
  refine ⟨e0, e2, e1, ?_⟩
  have z : ∀ {b : AB}, VB m b → ∀ d, b.D ≤ d → b.kd d = 0 := fun hV d hd => by
    rcases hV with rfl | ⟨_, _, _, _, _, _, _, h8⟩
    · rfl
    · exact (h8 d hd).1
  funext d
  by_cases c : d < 6
  · rw [← enK_dig dk c, ← enK_dig dk' c, e4]
  · rw [z hV d (by omega), z hV' d (by omega)]
