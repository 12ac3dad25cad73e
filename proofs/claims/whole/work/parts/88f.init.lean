/-! what the constructors make -/
/-- every cell speaks of numbers below N alone -/
def OKA (N : Nat) (σ : Hp) : Prop := ∀ i, i < N → okE N (σ i)
theorem OKA.mono_up {N : Nat} {σ : Hp} (h : OKA N σ) {e : va_E} (he : okE (N + 1) e) : OKA (N + 1) (va_up σ N e) := fun i h2 => by
  by_cases c : i = N
  · subst c; rw [vup_s]; exact he
  · rw [vup_n c]; exact (h i (by omega)).mono (by omega)
theorem OKA.up {N : Nat} {σ : Hp} (h : OKA N σ) {k : Nat} {e : va_E} (he : okE N e) : OKA N (va_up σ k e) := fun i h2 => by
  by_cases c : i = k
  · subst c; rw [vup_s]; exact he
  · rw [vup_n c]; exact h i h2
/-- all references of a list lie below N -/
def bV (N : Nat) : List Value → Bool
  | [] => true
  | .ref r :: l => decide (r < N) && bV N l
  | _ :: l => bV N l
theorem okE_L {N ci : Nat} : ∀ {fs : List Value}, bV N fs = true → okE N (.inr (ci, fs)) := fun {fs} h => okE_o (fun v hv => by
  induction fs with
  | nil => exact absurd hv List.not_mem_nil
  | cons w l ih =>
    have h2 : bV N l = true := by
      cases w <;> first | exact h | exact (Bool.and_eq_true _ _ ▸ h).2
    rcases List.mem_cons.mp hv with rfl | hv
    · cases v with
      | ref r => exact (show r < N from of_decide_eq_true (Bool.and_eq_true _ _ ▸ h).1)
      | _ => exact trivial
    · exact ih h2 hv)
/-- a row of references b, b + d, .. : the first k -/
def rA (t n k b d : Nat) : va_E := .inl (t, n, .inr (.inr (.inr (.inr (fun j => if j < k then some (b + d * j) else none)))))
theorem okE_rA {N t n k b d : Nat} (h : ∀ j, j < k → b + d * j < N) : okE N (rA t n k b d) := okE_r (fun j r e => by
  by_cases c : j < k
  · rw [if_pos c] at e; have := Option.some.inj e; have := h j c; omega
  · rw [if_neg c] at e; exact absurd e (by simp))
theorem rA_up {k b d : Nat} : va_up (fun j => if j < k then some (b + d * j) else none) k (some (b + d * k)) = (fun j => if j < k + 1 then some (b + d * j) else none) := by
  funext j
  by_cases c : j = k
  · subst c; rw [vup_s, if_pos (by omega)]
  · rw [vup_n c]
    by_cases c2 : j < k
    · rw [if_pos c2, if_pos (by omega)]
    · rw [if_neg c2, if_neg (by omega)]
theorem rA_0 {t n b d : Nat} : rA t n 0 b d = .inl (t, n, .inr (.inr (.inr (.inr (fun _ => none))))) := by
  unfold rA
  have : (fun j => if j < 0 then some (b + d * j) else none) = (fun _ : Nat => (none : Option Nat)) := by
    funext j; rw [if_neg (by omega)]
  rw [this]
theorem sR_of {t ci N : Nat} {σ : Hp} {i n k r : Nat} {f : Nat → Option Nat} {fs : List Value} (hi : i < N) (hr : r < N) (h : σ i = .inl (t, n, .inr (.inr (.inr (.inr f))))) (h2 : σ r = .inr (ci, fs)) (hk : k < n) (hn : n < 2 ^ 31) : sR t ci N σ i (nI k) r = some (va_up σ i (.inl (t, n, .inr (.inr (.inr (.inr (va_up f k (some r)))))))) := by
  unfold sR; rw [if_pos ⟨hi, hr⟩, h, h2]
  simp only [and_self, true_and]
  rw [if_pos (in_k hk hn), clampN (by omega)]
theorem sR_rA {t ci N : Nat} {σ : Hp} {i n k b d : Nat} {fs : List Value} (hi : i < N) (hr : b + d * k < N) (h : σ i = rA t n k b d) (h2 : σ (b + d * k) = .inr (ci, fs)) (hk : k < n) (hn : n < 2 ^ 31) : sR t ci N σ i (nI k) (b + d * k) = some (va_up σ i (rA t n (k + 1) b d)) := by
  rw [sR_of hi hr h h2 hk hn, rA_up]; rfl
theorem acts_loop {v0 a N0 : Nat} (h1 : v0 < a) (h2 : a < N0) (h3 : N0 < 900000) : ∀ (r t k c s : Nat) (σ : Hp), k + r = 24 → r < t → σ v0 = .inr (0, [.ref a, .int 0, .int 0]) → σ a = rA 4 24 k N0 1 → OKA (N0 + k) σ → c + r ≤ 25 → s + 6 * r ≤ 168 → ∃ σ' c' s', L_X0_init_15 v0 t (N0 + k) c s σ (nI k) = some (N0 + 24, c', s', σ') ∧ σ' a = rA 4 24 24 N0 1 ∧ (∀ i, N0 + k ≤ i → i < N0 + 24 → σ' i = bC (fun _ => 0)) ∧ (∀ i, i ≠ a → i < N0 + k → σ' i = σ i) ∧ OKA (N0 + 24) σ' := by
  intro r
  induction r with
  | zero =>
    intro t k c s σ hk ht hv ha hO hc hs
    obtain ⟨t, rfl⟩ : ∃ k, t = k + 1 := ⟨t - 1, by omega⟩
    obtain rfl : k = 24 := by omega
    rw [L_X0_init_15.eq_2, if_pos (show (24 : Int32) ≤ nI 24 by decide +kernel)]
    exact ⟨σ, c, s, rfl, ha, fun i a b => absurd a (by omega), fun i _ _ => rfl, hO⟩
  | succ r ih =>
    intro t k c s σ hk ht hv ha hO hc hs
    obtain ⟨t, rfl⟩ : ∃ k, t = k + 1 := ⟨t - 1, by omega⟩
    have hO1 : OKA (N0 + k + 1) (va_up σ (N0 + k) (bC fun _ => 0)) := hO.mono_up okE_b
    rw [L_X0_init_15.eq_2, if_neg (show ¬ (24 : Int32) ≤ nI k from nI_ge (b := 24) (by omega) (by omega)), gR_of (x := a) (by omega) hv rfl]
    simp only [Option.bind_some]
    rw [al_ok (HW_of hO) (fun x hx => by simp at hx; omega) (by omega) (by omega) (by omega)]
    simp only [Option.bind_some, mkc]
    rw [show (.inr (2, [.int 0, .int 0, .int 0, .int 0, .int 0, .int 0]) : va_E) = bC (fun _ => 0) from rfl, al_ok (HW_of hO1) (fun x hx => by simp at hx; omega) (by omega) (by omega) (by omega)]
    simp only [Option.bind_some, m_X2_init]
    rw [nb_ok (by omega)]
    simp only [Option.bind_some]
    have e1 : N0 + 1 * k = N0 + k := by omega
    have hs := sR_rA (ci := 2) (fs := [.int 0, .int 0, .int 0, .int 0, .int 0, .int 0]) (N := N0 + k + 1) (σ := va_up σ (N0 + k) (bC fun _ => 0)) (i := a) (t := 4) (n := 24) (k := k) (b := N0) (d := 1) (by omega) (by omega) (by rw [vup_n (by omega)]; exact ha) (by rw [e1, vup_s]; rfl) (by omega) (by omega)
    rw [e1] at hs
    rw [hs, nI_1]
    simp only [Option.bind_some]
    obtain ⟨σ', c', s', g1, g2, g3, g4, g5⟩ := ih t (k + 1) (c + 1 + 0) (s + 6 + 0) (va_up (va_up σ (N0 + k) (bC fun _ => 0)) a (rA 4 24 (k + 1) N0 1)) (by omega) (by omega) (by rw [vup_n (by omega), vup_n (by omega)]; exact hv) vup_s (hO1.up (okE_rA (fun j hj => by omega))) (by omega) (by omega)
    refine ⟨σ', c', s', g1, g2, fun i a1 a2 => ?_, fun i a1 a2 => ?_, g5⟩
    · by_cases c : i = N0 + k
      · subst c; rw [g4 _ (by omega) (by omega), vup_n (by omega), vup_s]
      · exact g3 i (by omega) a2
    · rw [g4 i a1 (by omega), vup_n a1, vup_n (by omega)]
theorem imgs_loop {v0 a N0 : Nat} {fs : List Value} (h1 : v0 < a) (h2 : a < N0) (h3 : N0 < 900000) (hf : fs[5]? = some (.ref a)) : ∀ (r t k c s : Nat) (σ : Hp), k + r = 2 → r < t → σ v0 = .inr (8, fs) → σ a = rA 4 2 k N0 1 → OKA (N0 + k) σ → c + r ≤ 52 → s + 6 * r ≤ 636 → ∃ σ' c' s', L_X8_init_105 v0 t (N0 + k) c s σ (nI k) = some (N0 + 2, c', s', σ') ∧ σ' a = rA 4 2 2 N0 1 ∧ (∀ i, N0 + k ≤ i → i < N0 + 2 → σ' i = bC (fun _ => 0)) ∧ (∀ i, i ≠ a → i < N0 + k → σ' i = σ i) ∧ OKA (N0 + 2) σ' := by
  intro r
  induction r with
  | zero =>
    intro t k c s σ hk ht hv ha hO hc hs
    obtain ⟨t, rfl⟩ : ∃ k, t = k + 1 := ⟨t - 1, by omega⟩
    obtain rfl : k = 2 := by omega
    rw [L_X8_init_105.eq_2, if_pos (show (2 : Int32) ≤ nI 2 by decide +kernel)]
    exact ⟨σ, c, s, rfl, ha, fun i a b => absurd a (by omega), fun i _ _ => rfl, hO⟩
  | succ r ih =>
    intro t k c s σ hk ht hv ha hO hc hs
    obtain ⟨t, rfl⟩ : ∃ k, t = k + 1 := ⟨t - 1, by omega⟩
    have hO1 : OKA (N0 + k + 1) (va_up σ (N0 + k) (bC fun _ => 0)) := hO.mono_up okE_b
    rw [L_X8_init_105.eq_2, if_neg (show ¬ (2 : Int32) ≤ nI k from nI_ge (b := 2) (by omega) (by omega)), gR_of (x := a) (by omega) hv hf]
    simp only [Option.bind_some]
    rw [al_ok (HW_of hO) (fun x hx => by simp at hx; omega) (by omega) (by omega) (by omega)]
    simp only [Option.bind_some, mkc]
    rw [show (.inr (2, [.int 0, .int 0, .int 0, .int 0, .int 0, .int 0]) : va_E) = bC (fun _ => 0) from rfl, al_ok (HW_of hO1) (fun x hx => by simp at hx; omega) (by omega) (by omega) (by omega)]
    simp only [Option.bind_some, m_X2_init]
    rw [nb_ok (by omega)]
    simp only [Option.bind_some]
    have e1 : N0 + 1 * k = N0 + k := by omega
    have hs := sR_rA (ci := 2) (fs := [.int 0, .int 0, .int 0, .int 0, .int 0, .int 0]) (N := N0 + k + 1) (σ := va_up σ (N0 + k) (bC fun _ => 0)) (i := a) (t := 4) (n := 2) (k := k) (b := N0) (d := 1) (by omega) (by omega) (by rw [vup_n (by omega)]; exact ha) (by rw [e1, vup_s]; rfl) (by omega) (by omega)
    rw [e1] at hs
    rw [hs, nI_1]
    simp only [Option.bind_some]
    obtain ⟨σ', c', s', g1, g2, g3, g4, g5⟩ := ih t (k + 1) (c + 1 + 0) (s + 6 + 0) (va_up (va_up σ (N0 + k) (bC fun _ => 0)) a (rA 4 2 (k + 1) N0 1)) (by omega) (by omega) (by rw [vup_n (by omega), vup_n (by omega)]; exact hv) vup_s (hO1.up (okE_rA (fun j hj => by omega))) (by omega) (by omega)
    refine ⟨σ', c', s', g1, g2, fun i a1 a2 => ?_, fun i a1 a2 => ?_, g5⟩
    · by_cases c : i = N0 + k
      · subst c; rw [g4 _ (by omega) (by omega), vup_n (by omega), vup_s]
      · exact g3 i (by omega) a2
    · rw [g4 i a1 (by omega), vup_n a1, vup_n (by omega)]
/-- a new row -/
def rwO (n : Nat) : va_E := .inr (5, [.int (-1), .int 0, .ref (n + 1)])
def rwI : va_E := .inl (0, 40, .inl (fun _ => 0))
theorem row_init {N t0 : Nat} {σ : Hp} (ht : t0 < N) (hN : N < 900000) (h0 : σ t0 = .inr (5, [.int 0, .int 0, .null])) (hO : OKA N σ) : ∃ σ', m_X5_init N σ t0 = some (N + 1, σ') ∧ σ' t0 = .inr (5, [.int (-1), .int 0, .ref N]) ∧ σ' N = rwI ∧ (∀ i, i ≠ t0 → i ≠ N → σ' i = σ i) ∧ OKA (N + 1) σ' := by
  unfold m_X5_init
  rw [pV_of ht h0 (by simp)]
  simp only [Option.bind_some, List.set]
  have hO1 : OKA N (va_up σ t0 (.inr (5, [.int (-1), .int 0, .null]))) := hO.up (okE_L rfl)
  rw [al_ok (HW_of hO1) (fun x hx => by simp at hx; omega) (by omega) (by omega) (by omega)]
  simp only [Option.bind_some, mkc]
  have hO2 : OKA (N + 1) (va_up (va_up σ t0 (.inr (5, [.int (-1), .int 0, .null]))) N (.inl (0, 40, .inl (fun _ => 0)))) := hO1.mono_up okE_i
  rw [pV_of (i := t0) (fs := [.int (-1), .int 0, .null]) (by omega) (by rw [vup_n (by omega), vup_s]) (by simp)]
  simp only [Option.bind_some, List.set]
  refine ⟨_, rfl, vup_s, by rw [vup_n (by omega), vup_s]; rfl, fun i a b => by rw [vup_n a, vup_n b, vup_n a], hO2.up (okE_o (fun v hv => ?_))⟩
  simp only [List.mem_cons, List.not_mem_nil, or_false] at hv
  rcases hv with rfl | rfl | rfl
  · exact trivial
  · exact trivial
  · show N < N + 1; omega
theorem rows_loop {v0 a N0 : Nat} {fs : List Value} (h1 : v0 < a) (h2 : a < N0) (h3 : N0 < 800000) (hf : fs[0]? = some (.ref a)) : ∀ (r t k c s : Nat) (σ : Hp), k + r = 8 → r < t → σ v0 = .inr (8, fs) → σ a = rA 5 8 k N0 2 → OKA (N0 + 2 * k) σ → c + 2 * r ≤ 52 → s + 43 * r ≤ 636 → ∃ σ' c' s', L_X8_init_78 v0 t (N0 + 2 * k) c s σ (nI k) = some (N0 + 16, c', s', σ') ∧ c' = c + 2 * r ∧ s' = s + 43 * r ∧ σ' a = rA 5 8 8 N0 2 ∧ (∀ j, k ≤ j → j < 8 → σ' (N0 + 2 * j) = rwO (N0 + 2 * j) ∧ σ' (N0 + 2 * j + 1) = rwI) ∧ (∀ i, i ≠ a → i < N0 + 2 * k → σ' i = σ i) ∧ OKA (N0 + 16) σ' := by
  intro r
  induction r with
  | zero =>
    intro t k c s σ hk ht hv ha hO hc hs
    obtain ⟨t, rfl⟩ : ∃ k, t = k + 1 := ⟨t - 1, by omega⟩
    obtain rfl : k = 8 := by omega
    rw [L_X8_init_78.eq_2, if_pos (show (8 : Int32) ≤ nI 8 by decide +kernel)]
    exact ⟨σ, c, s, rfl, by omega, by omega, ha, fun i a b => absurd a (by omega), fun i _ _ => rfl, hO⟩
  | succ r ih =>
    intro t k c s σ hk ht hv ha hO hc hs
    obtain ⟨t, rfl⟩ : ∃ k, t = k + 1 := ⟨t - 1, by omega⟩
    have hO1 : OKA (N0 + 2 * k + 1) (va_up σ (N0 + 2 * k) (.inr (5, [.int 0, .int 0, .null]))) := hO.mono_up (okE_L rfl)
    rw [L_X8_init_78.eq_2, if_neg (show ¬ (8 : Int32) ≤ nI k from nI_ge (b := 8) (by omega) (by omega)), gR_of (x := a) (by omega) hv hf]
    simp only [Option.bind_some]
    rw [al_ok (HW_of hO) (fun x hx => by simp at hx; omega) (by omega) (by omega) (by omega)]
    simp only [Option.bind_some, mkc]
    rw [al_ok (HW_of hO1) (fun x hx => by simp at hx; omega) (by omega) (by omega) (by omega)]
    simp only [Option.bind_some]
    obtain ⟨σ1, i1, i2, i3, i4, i5⟩ := row_init (t0 := N0 + 2 * k) (by omega) (by omega) vup_s hO1
    rw [i1]
    simp only [Option.bind_some]
    rw [nb_ok (by omega)]
    simp only [Option.bind_some]
    rw [sR_rA (t := 5) (ci := 5) (fs := [.int (-1), .int 0, .ref (N0 + 2 * k + 1)]) (N := N0 + 2 * k + 1 + 1) (σ := σ1) (i := a) (n := 8) (k := k) (b := N0) (d := 2) (by omega) (by omega) (by rw [i4 _ (by omega) (by omega), vup_n (by omega)]; exact ha) i2 (by omega) (by omega), nI_1]
    simp only [Option.bind_some]
    obtain ⟨σ', c', s', g1, gc, gs, g2, g3, g4, g5⟩ := ih t (k + 1) (c + 1 + 1) (s + 3 + 40) (va_up σ1 a (rA 5 8 (k + 1) N0 2)) (by omega) (by omega) (by rw [vup_n (by omega), i4 _ (by omega) (by omega), vup_n (by omega)]; exact hv) vup_s (i5.up (okE_rA (fun j hj => by omega))) (by omega) (by omega)
    refine ⟨σ', c', s', g1, by omega, by omega, g2, fun j a1 a2 => ?_, fun i a1 a2 => ?_, g5⟩
    · by_cases c : j = k
      · subst c
        refine ⟨?_, ?_⟩
        · rw [g4 _ (by omega) (by omega), vup_n (by omega), i2]; rfl
        · rw [g4 _ (by omega) (by omega), vup_n (by omega), i3]
      · exact g3 j (by omega) a2
    · rw [g4 i a1 (by omega), vup_n a1, i4 _ (by omega) (by omega), vup_n (by omega)]
theorem lane_loop {v0 a N c s : Nat} {fs : List Value} (h1 : v0 < N) (h2 : a < N) (h3 : v0 ≠ a) (hf : fs[1]? = some (.ref a)) : ∀ (r t k : Nat) (σ : Hp), k + r = 8 → r < t → σ v0 = .inr (9, fs) → σ a = .inl (0, 8, .inl (fun j => if j < k then -1 else 0)) → L_X9_init_108 v0 t N c s σ (nI k) = some (N, c, s, va_up σ a (.inl (0, 8, .inl (fun j => if j < 8 then -1 else 0)))) := by
  intro r
  induction r with
  | zero =>
    intro t k σ hk ht hv ha
    obtain ⟨t, rfl⟩ : ∃ k, t = k + 1 := ⟨t - 1, by omega⟩
    obtain rfl : k = 8 := by omega
    rw [L_X9_init_108.eq_2, if_pos (show (8 : Int32) ≤ nI 8 by decide +kernel)]
    refine ofN ?_
    have : va_up σ a (.inl (0, 8, .inl (fun j => if j < 8 then -1 else 0))) = σ := by
      funext i
      by_cases c : i = a
      · subst c; rw [vup_s, ha]
      · rw [vup_n c]
    rw [this]
  | succ r ih =>
    intro t k σ hk ht hv ha
    obtain ⟨t, rfl⟩ : ∃ k, t = k + 1 := ⟨t - 1, by omega⟩
    rw [L_X9_init_108.eq_2, if_neg (show ¬ (8 : Int32) ≤ nI k from nI_ge (b := 8) (by omega) (by omega)), gR_of (x := a) (by omega) hv hf]
    simp only [Option.bind_some]
    rw [sI_of h2 ha (by omega) (by omega), nI_1]
    simp only [Option.bind_some]
    rw [ih t (k + 1) _ (by omega) (by omega) (by rw [vup_n h3]; exact hv) (by
      rw [vup_s]
      have : upd (fun j => if j < k then (-1 : Int32) else 0) k (nar 0 (-1)) = (fun j => if j < k + 1 then (-1 : Int32) else 0) := by
        funext j
        by_cases c : j = k
        · subst c; rw [upd_s, if_pos (by omega)]; rfl
        · rw [upd_n c]
          by_cases c2 : j < k
          · rw [if_pos c2, if_pos (by omega)]
          · rw [if_neg c2, if_neg (by omega)]
      rw [this])]
    refine ofN ?_
    have : ∀ e e' : va_E, va_up (va_up σ a e) a e' = va_up σ a e' := fun e e' => by
      funext i
      by_cases c : i = a
      · subst c; rw [vup_s, vup_s]
      · rw [vup_n c, vup_n c, vup_n c]
    rw [this]
