/-! walks in a graph of states, sixteen moves at each; the search by breadth -/
/-- whether a walk of r moves leads from x to where T holds -/
def cw (mv : Nat → Nat → Bool) (nx : Nat → Nat → Nat) (T : Nat → Bool) : Nat → Nat → Bool
  | 0, x => T x
  | r + 1, x => (List.range 16).any (fun k => mv x k && cw mv nx T r (nx x k))
section Gr
variable {mv : Nat → Nat → Bool} {nx : Nat → Nat → Nat} {T : Nat → Bool} {s0 : Nat}
theorem cw_succ {r x : Nat} : cw mv nx T (r + 1) x = true ↔ ∃ k, k < 16 ∧ mv x k = true ∧ cw mv nx T r (nx x k) = true := by
  rw [cw, List.any_eq_true]
  constructor
  · rintro ⟨k, h1, h2⟩
    rw [Bool.and_eq_true] at h2
    exact ⟨k, List.mem_range.mp h1, h2.1, h2.2⟩
  · rintro ⟨k, h1, h2, h3⟩
    exact ⟨k, List.mem_range.mpr h1, by rw [h2, h3]; rfl⟩
/-- the states from which one move leads to where T holds -/
def bef (mv : Nat → Nat → Bool) (nx : Nat → Nat → Nat) (T : Nat → Bool) (x : Nat) : Bool := (List.range 16).any (fun k => mv x k && T (nx x k))
theorem cw_bef : ∀ (r x : Nat), cw mv nx T (r + 1) x = cw mv nx (bef mv nx T) r x := by
  intro r
  induction r with
  | zero => intro x; rfl
  | succ r ih =>
    intro x
    rw [cw, cw]
    congr 1
    funext k
    rw [ih]
theorem cw_map {mv' : Nat → Nat → Bool} {nx' : Nat → Nat → Nat} {pi : Nat → Nat} {V : Nat → Prop} (hv : ∀ x k, V x → k < 16 → mv x k = true → V (nx x k)) (h1 : ∀ x k, V x → k < 16 → mv' (pi x) k = mv x k) (h2 : ∀ x k, V x → k < 16 → mv x k = true → nx' (pi x) k = pi (nx x k)) : ∀ (r x : Nat), V x → cw mv' nx' T r (pi x) = cw mv nx (fun y => T (pi y)) r x := by
  intro r
  induction r with
  | zero => intro x _; rfl
  | succ r ih =>
    intro x hx
    apply Bool.eq_iff_iff.mpr
    rw [cw_succ, cw_succ]
    constructor
    · rintro ⟨k, g1, g2, g3⟩
      rw [h1 x k hx g1] at g2
      rw [h2 x k hx g1 g2, ih _ (hv x k hx g1 g2)] at g3
      exact ⟨k, g1, g2, g3⟩
    · rintro ⟨k, g1, g2, g3⟩
      refine ⟨k, g1, by rw [h1 x k hx g1]; exact g2, ?_⟩
      rw [h2 x k hx g1 g2, ih _ (hv x k hx g1 g2)]
      exact g3
/-- the first number below n of which p holds -/
def frst (p : Nat → Bool) : Nat → Nat → Nat
  | 0, i => i
  | n + 1, i => if p i then i else frst p n (i + 1)
theorem frst_spec {p : Nat → Bool} : ∀ (n i : Nat), i ≤ frst p n i ∧ frst p n i ≤ i + n ∧ (∀ j, i ≤ j → j < frst p n i → p j = false) ∧ (frst p n i < i + n → p (frst p n i) = true) := by
  intro n
  induction n with
  | zero => intro i; exact ⟨Nat.le_refl _, Nat.le_refl _, fun j h1 h2 => absurd h2 (by rw [frst]; omega), fun h => absurd h (by rw [frst]; omega)⟩
  | succ n ih =>
    intro i
    rw [frst]
    split
    case isTrue h => exact ⟨Nat.le_refl _, by omega, fun j h1 h2 => absurd h2 (by omega), fun _ => h⟩
    case isFalse h =>
      obtain ⟨g1, g2, g3, g4⟩ := ih (i + 1)
      refine ⟨by omega, by omega, fun j h1 h2 => ?_, fun h' => g4 (by omega)⟩
      by_cases c : j = i
      · subst c; exact Bool.eq_false_iff.mpr h
      · exact g3 j (by omega) h2
theorem frst_eq {p : Nat → Bool} {n m : Nat} (hm : m < n) (h1 : p m = true) (h2 : ∀ j, j < m → p j = false) : frst p n 0 = m := by
  obtain ⟨_, g2, g3, g4⟩ := frst_spec (p := p) n 0
  by_cases c : frst p n 0 < m
  · have := g4 (by omega)
    rw [h2 _ c] at this
    exact absurd this (by decide)
  · by_cases c2 : m < frst p n 0
    · have := g3 m (Nat.zero_le _) c2
      rw [h1] at this
      exact absurd this (by decide)
    · omega
/-- how many moves it takes from x to where T holds; 8192: it can't be come to -/
def lsN (mv : Nat → Nat → Bool) (nx : Nat → Nat → Nat) (T : Nat → Bool) (x : Nat) : Nat := frst (fun r => cw mv nx T r x) 8192 0
/-- the first of the moves of which the rest is possible -/
def gmv (mv : Nat → Nat → Bool) (nx : Nat → Nat → Nat) (T : Nat → Bool) (r x : Nat) : Nat := frst (fun k => mv x k && cw mv nx T r (nx x k)) 16 0
/-- the state behind j moves of the first row of n moves -/
def fsx (mv : Nat → Nat → Bool) (nx : Nat → Nat → Nat) (T : Nat → Bool) (n x : Nat) : Nat → Nat
  | 0 => x
  | j + 1 => nx (fsx mv nx T n x j) (gmv mv nx T (n - 1 - j) (fsx mv nx T n x j))
/-- its j-th move -/
def fsm (mv : Nat → Nat → Bool) (nx : Nat → Nat → Nat) (T : Nat → Bool) (n x j : Nat) : Nat := gmv mv nx T (n - 1 - j) (fsx mv nx T n x j)
theorem gmv_ok {r x : Nat} (h : cw mv nx T (r + 1) x = true) : gmv mv nx T r x < 16 ∧ mv x (gmv mv nx T r x) = true ∧ cw mv nx T r (nx x (gmv mv nx T r x)) = true ∧ ∀ k, k < gmv mv nx T r x → mv x k = true → cw mv nx T r (nx x k) = false := by
  obtain ⟨k, h1, h2, h3⟩ := cw_succ.mp h
  obtain ⟨_, g2, g3, g4⟩ := frst_spec (p := fun k => mv x k && cw mv nx T r (nx x k)) 16 0
  have hl : gmv mv nx T r x < 16 := by
    have hk : ¬ k < gmv mv nx T r x := fun c => by
      have := g3 k (Nat.zero_le _) c
      simp only [h2, h3] at this
      exact absurd this (by decide)
    omega
  have := g4 (by have : gmv mv nx T r x < 16 := hl; unfold gmv at this; omega)
  simp only [Bool.and_eq_true] at this
  refine ⟨hl, this.1, this.2, fun j hj hm => ?_⟩
  have := g3 j (Nat.zero_le _) hj
  simp only [hm, Bool.true_and] at this
  exact this
theorem fsx_ok {n : Nat} (h : cw mv nx T n s0 = true) : ∀ j, j ≤ n → cw mv nx T (n - j) (fsx mv nx T n s0 j) = true := by
  intro j
  induction j with
  | zero => intro _; exact h
  | succ j ih =>
    intro hj
    have := ih (by omega)
    rw [show n - j = (n - 1 - j) + 1 by omega] at this
    rw [fsx, show n - (j + 1) = n - 1 - j by omega]
    exact (gmv_ok this).2.2.1
end Gr
/-- more numbers below m than m can't differ -/
theorem pig : ∀ (m n : Nat) (f : Nat → Nat), (∀ j, j < n → f j < m) → (∀ i j, i < j → j < n → f i ≠ f j) → n ≤ m := by
  intro m
  induction m with
  | zero =>
    intro n f h1 _
    by_cases c : n = 0
    · omega
    · exact absurd (h1 0 (by omega)) (by omega)
  | succ m ih =>
    intro n f h1 h2
    by_cases c : ∃ j, j < n ∧ f j = m
    · obtain ⟨j0, hj, e⟩ := c
      have := ih (n - 1) (fun j => if j < j0 then f j else f (j + 1)) (fun j hj' => by
        show (if j < j0 then f j else f (j + 1)) < m
        split
        · next c =>
          have := h1 j (by omega)
          have := h2 j j0 c hj
          omega
        · next c =>
          have := h1 (j + 1) (by omega)
          have := h2 j0 (j + 1) (by omega) (by omega)
          omega) (fun i j hij hj' => by
        show (if i < j0 then f i else f (i + 1)) ≠ (if j < j0 then f j else f (j + 1))
        split <;> split
        · exact h2 i j hij (by omega)
        · exact h2 i (j + 1) (by omega) (by omega)
        · next c1 c2 => exact absurd c2 (by omega)
        · exact h2 (i + 1) (j + 1) (by omega) (by omega))
      omega
    · have := ih n f (fun j hj => by
        have := h1 j hj
        have : f j ≠ m := fun e => c ⟨j, hj, e⟩
        omega) h2
      omega
/-- the search: how many are found, the found ones in their order, where each stands, steps, parents, latest moves -/
abbrev BS : Type := Nat × (Nat → Nat) × (Nat → Option Nat) × (Nat → Nat) × (Nat → Nat) × (Nat → Nat)
abbrev BS.n (s : BS) : Nat := s.1
abbrev BS.q (s : BS) : Nat → Nat := s.2.1
abbrev BS.ix (s : BS) : Nat → Option Nat := s.2.2.1
abbrev BS.dq (s : BS) : Nat → Nat := s.2.2.2.1
abbrev BS.pq (s : BS) : Nat → Nat := s.2.2.2.2.1
abbrev BS.mq (s : BS) : Nat → Nat := s.2.2.2.2.2
def vu {α : Type} (g : Nat → α) (k : Nat) (v : α) : Nat → α := fun j => if j = k then v else g j
theorem vu_s {α : Type} {g : Nat → α} {k : Nat} {v : α} : vu g k v k = v := if_pos rfl
theorem vu_n {α : Type} {g : Nat → α} {k j : Nat} {v : α} (h : j ≠ k) : vu g k v j = g j := if_neg h
/-- the search begins -/
def bs0 (s0 : Nat) : BS := (1, fun _ => s0, vu (fun _ => none) s0 (some 0), fun _ => 0, fun _ => 0, fun _ => 0)
/-- y is come to from the i-th by move k -/
def bsC (s : BS) (i y k : Nat) : BS := if s.ix y = none then (s.n + 1, vu s.q s.n y, vu s.ix y (some s.n), vu s.dq s.n (s.dq i + 1), vu s.pq s.n i, vu s.mq s.n k) else s
/-- what holds while moves below k of the i-th are done -/
def BI (mv : Nat → Nat → Bool) (nx : Nat → Nat → Nat) (V : Nat → Prop) (s0 : Nat) (s : BS) (i k : Nat) : Prop :=
  (1 ≤ s.n ∧ s.q 0 = s0 ∧ s.dq 0 = 0 ∧ i ≤ s.n) ∧
  (∀ j, j < s.n → s.ix (s.q j) = some j ∧ s.q j < 8192 ∧ V (s.q j)) ∧
  (∀ x j, s.ix x = some j → j < s.n ∧ s.q j = x) ∧
  (∀ j, 0 < j → j < s.n → s.pq j < j ∧ s.mq j < 16 ∧ mv (s.q (s.pq j)) (s.mq j) = true ∧ nx (s.q (s.pq j)) (s.mq j) = s.q j ∧ s.dq j = s.dq (s.pq j) + 1 ∧ (s.pq j < i ∨ s.pq j = i ∧ s.mq j < k)) ∧
  (∀ j1 j2, 0 < j1 → j1 < j2 → j2 < s.n → s.pq j1 < s.pq j2 ∨ s.pq j1 = s.pq j2 ∧ s.mq j1 < s.mq j2) ∧
  (∀ j1 j2, j1 ≤ j2 → j2 < s.n → s.dq j1 ≤ s.dq j2) ∧
  (∀ j m, (j < i ∨ j = i ∧ m < k) → j < s.n → m < 16 → mv (s.q j) m = true → ∃ jy, s.ix (nx (s.q j) m) = some jy ∧ (jy = 0 ∨ s.pq jy < j ∨ s.pq jy = j ∧ s.mq jy ≤ m))
section Bf
variable {mv : Nat → Nat → Bool} {nx : Nat → Nat → Nat} {T : Nat → Bool} {V : Nat → Prop} {s0 : Nat} {s : BS}
theorem BI.start (h : s0 < 8192) (hV : V s0) : BI mv nx V s0 (bs0 s0) 0 0 := by
  refine ⟨⟨Nat.le_refl _, rfl, rfl, Nat.zero_le _⟩, ?_, ?_, ?_, ?_, ?_, ?_⟩
  · intro j hj
    obtain rfl : j = 0 := by have : j < 1 := hj; omega
    refine ⟨?_, h, hV⟩
    show vu (fun _ => none) s0 (some 0) s0 = some 0
    exact vu_s
  · intro x j hx
    by_cases c : x = s0
    · subst c
      have : some 0 = some j := by rw [← hx]; show some 0 = vu (fun _ => none) x (some 0) x; exact vu_s.symm
      obtain rfl : 0 = j := Option.some.inj this
      exact ⟨Nat.zero_lt_one, rfl⟩
    · have : none = some j := by rw [← hx]; show none = vu (fun _ => none) s0 (some 0) x; rw [vu_n c]
      exact absurd this (by simp)
  · intro j h0 hj
    exact absurd (show j < 1 from hj) (by omega)
  · intro j1 j2 h0 h1 hj
    exact absurd (show j2 < 1 from hj) (by omega)
  · intro _ _ _ _; exact Nat.le_refl _
  · intro j m hj
    exact absurd hj (by omega)
/-- steps to the parents' children -/
theorem BI.le {i k : Nat} (h : BI mv nx V s0 s i k) (hi : i < s.n) : ∀ j, j < s.n → s.dq j ≤ s.dq i + 1 := by
  obtain ⟨⟨_, _, h0, _⟩, _, _, h4, _, h6, _⟩ := h
  intro j hj
  by_cases c : j = 0
  · subst c; rw [h0]; omega
  · obtain ⟨g1, _, _, _, g5, g6⟩ := h4 j (by omega) hj
    rw [g5]
    have := h6 (s.pq j) i (by omega) hi
    omega
theorem BI.skip {i k : Nat} (h : BI mv nx V s0 s i k) (hk : mv (s.q i) k = false) : BI mv nx V s0 s i (k + 1) := by
  obtain ⟨h1, h2, h3, h4, h5, h6, h7⟩ := h
  refine ⟨h1, h2, h3, fun j a b => ?_, h5, h6, fun j m hj => ?_⟩
  · obtain ⟨g1, g2, g3, g4, g5, g6⟩ := h4 j a b
    exact ⟨g1, g2, g3, g4, g5, by omega⟩
  · by_cases c : j = i ∧ m = k
    · obtain ⟨rfl, rfl⟩ := c
      intro _ _ hm
      rw [hk] at hm
      exact absurd hm (by decide)
    · exact h7 j m (by omega)
theorem BI.come {i k : Nat} (h : BI mv nx V s0 s i k) (hi : i < s.n) (hk : k < 16) (hm : mv (s.q i) k = true) (hy : nx (s.q i) k < 8192) (hV : V (nx (s.q i) k)) : BI mv nx V s0 (bsC s i (nx (s.q i) k) k) i (k + 1) := by
  have hle := h.le hi
  obtain ⟨h1, h2, h3, h4, h5, h6, h7⟩ := h
  unfold bsC
  split
  case isFalse c =>
    refine ⟨h1, h2, h3, fun j a b => ?_, h5, h6, fun j m hj => ?_⟩
    · obtain ⟨g1, g2, g3, g4, g5, g6⟩ := h4 j a b
      exact ⟨g1, g2, g3, g4, g5, by omega⟩
    · by_cases c2 : j = i ∧ m = k
      · obtain ⟨rfl, rfl⟩ := c2
        intro _ _ _
        cases e : s.ix (nx (s.q j) m) with
        | none => exact absurd e c
        | some jy =>
          refine ⟨jy, rfl, ?_⟩
          by_cases c0 : jy = 0
          · exact Or.inl c0
          · have := (h4 jy (by omega) (h3 _ _ e).1).2.2.2.2.2
            omega
      · exact h7 j m (by omega)
  case isTrue c =>
    generalize hg : nx (s.q i) k = y at *
    have hnew : ∀ j, j < s.n → s.q j ≠ y := fun j hj e => by
      have := (h2 j hj).1
      rw [e, c] at this
      exact absurd this (by simp)
    show BI mv nx V s0 (s.n + 1, vu s.q s.n y, vu s.ix y (some s.n), vu s.dq s.n (s.dq i + 1), vu s.pq s.n i, vu s.mq s.n k) i (k + 1)
    refine ⟨⟨by show 1 ≤ s.n + 1; omega, ?_, ?_, by show i ≤ s.n + 1; omega⟩, ?_, ?_, ?_, ?_, ?_, ?_⟩
    · show vu s.q s.n y 0 = s0
      rw [vu_n (by omega)]; exact h1.2.1
    · show vu s.dq s.n _ 0 = 0
      rw [vu_n (by omega)]; exact h1.2.2.1
    · intro j hj
      show vu s.ix y (some s.n) (vu s.q s.n y j) = some j ∧ vu s.q s.n y j < 8192 ∧ V (vu s.q s.n y j)
      have hj : j < s.n + 1 := hj
      by_cases e : j = s.n
      · subst e; rw [vu_s, vu_s]; exact ⟨rfl, hy, hV⟩
      · rw [vu_n e, vu_n (hnew j (by omega))]; exact h2 j (by omega)
    · intro x j
      show vu s.ix y (some s.n) x = some j → j < s.n + 1 ∧ vu s.q s.n y j = x
      by_cases e : x = y
      · subst e; rw [vu_s]; intro he
        obtain rfl := Option.some.inj he
        rw [vu_s]; exact ⟨by omega, rfl⟩
      · rw [vu_n e]; intro he
        have := h3 x j he
        rw [vu_n (by omega)]; exact ⟨by omega, this.2⟩
    · intro j a b
      have b : j < s.n + 1 := b
      show vu s.pq s.n i j < j ∧ vu s.mq s.n k j < 16 ∧ mv (vu s.q s.n y (vu s.pq s.n i j)) (vu s.mq s.n k j) = true ∧ nx (vu s.q s.n y (vu s.pq s.n i j)) (vu s.mq s.n k j) = vu s.q s.n y j ∧ vu s.dq s.n (s.dq i + 1) j = vu s.dq s.n (s.dq i + 1) (vu s.pq s.n i j) + 1 ∧ (vu s.pq s.n i j < i ∨ vu s.pq s.n i j = i ∧ vu s.mq s.n k j < k + 1)
      by_cases e : j = s.n
      · subst e
        rw [vu_s, vu_s, vu_s, vu_s, vu_n (show i ≠ s.n by omega), vu_n (show i ≠ s.n by omega)]
        exact ⟨hi, hk, hm, hg, rfl, by omega⟩
      · obtain ⟨g1, g2, g3, g4, g5, g6⟩ := h4 j a (by omega)
        rw [vu_n e, vu_n e, vu_n e, vu_n e, vu_n (show s.pq j ≠ s.n by omega), vu_n (show s.pq j ≠ s.n by omega)]
        exact ⟨g1, g2, g3, g4, g5, by omega⟩
    · intro j1 j2 a b b2
      have b2 : j2 < s.n + 1 := b2
      show vu s.pq s.n i j1 < vu s.pq s.n i j2 ∨ vu s.pq s.n i j1 = vu s.pq s.n i j2 ∧ vu s.mq s.n k j1 < vu s.mq s.n k j2
      rw [vu_n (show j1 ≠ s.n by omega), vu_n (show j1 ≠ s.n by omega)]
      by_cases e : j2 = s.n
      · subst e; rw [vu_s, vu_s]
        exact (h4 j1 a b).2.2.2.2.2
      · rw [vu_n e, vu_n e]; exact h5 j1 j2 a b (by omega)
    · intro j1 j2 b b2
      have b2 : j2 < s.n + 1 := b2
      show vu s.dq s.n (s.dq i + 1) j1 ≤ vu s.dq s.n (s.dq i + 1) j2
      by_cases e : j2 = s.n
      · subst e; rw [vu_s]
        by_cases e1 : j1 = s.n
        · subst e1; rw [vu_s]; exact Nat.le_refl _
        · rw [vu_n e1]; exact hle j1 (by omega)
      · rw [vu_n e, vu_n (show j1 ≠ s.n by omega)]; exact h6 j1 j2 b (by omega)
    · intro j m hj hj2 hm16
      have hjn : j ≠ s.n := by omega
      show mv (vu s.q s.n y j) m = true → ∃ jy, vu s.ix y (some s.n) (nx (vu s.q s.n y j) m) = some jy ∧ (jy = 0 ∨ vu s.pq s.n i jy < j ∨ vu s.pq s.n i jy = j ∧ vu s.mq s.n k jy ≤ m)
      rw [vu_n hjn]
      intro hmv
      by_cases c2 : j = i ∧ m = k
      · obtain ⟨rfl, rfl⟩ := c2
        refine ⟨s.n, by rw [hg, vu_s], ?_⟩
        rw [vu_s, vu_s]; omega
      · obtain ⟨jy, e1, e2⟩ := h7 j m (by omega) (by omega) hm16 hmv
        have := (h3 _ _ e1).1
        refine ⟨jy, ?_, ?_⟩
        · rw [vu_n]; exact e1
          intro e
          rw [e, c] at e1
          exact absurd e1 (by simp)
        · rw [vu_n (by omega), vu_n (by omega)]; exact e2
theorem BI.next {i : Nat} (h : BI mv nx V s0 s i 16) (hi : i < s.n) : BI mv nx V s0 s (i + 1) 0 := by
  obtain ⟨h1, h2, h3, h4, h5, h6, h7⟩ := h
  refine ⟨⟨h1.1, h1.2.1, h1.2.2.1, by omega⟩, h2, h3, fun j a b => ?_, h5, h6, fun j m hj hj2 hm => ?_⟩
  · obtain ⟨g1, g2, g3, g4, g5, g6⟩ := h4 j a b
    exact ⟨g1, g2, g3, g4, g5, by omega⟩
  · exact h7 j m (by omega) hj2 hm
/-- never more than there are states -/
theorem BI.n_le {i k : Nat} (h : BI mv nx V s0 s i k) : s.n ≤ 8192 := by
  obtain ⟨_, h2, _⟩ := h
  refine pig 8192 s.n s.q (fun j hj => (h2 j hj).2.1) (fun a b hab hb e => ?_)
  have e1 := (h2 a (by omega)).1
  rw [e, (h2 b hb).1] at e1
  have := Option.some.inj e1
  omega
theorem BI.n_lt {i k y : Nat} (h : BI mv nx V s0 s i k) (hy : y < 8192) (hn : s.ix y = none) : s.n < 8192 := by
  obtain ⟨_, h2, _⟩ := h
  have := pig 8192 (s.n + 1) (fun j => if j = s.n then y else s.q j) (fun j hj => by
    show (if j = s.n then y else s.q j) < 8192
    split
    · exact hy
    · exact (h2 j (by omega)).2.1) (fun a b hab hb e => by
    have e : (if a = s.n then y else s.q a) = (if b = s.n then y else s.q b) := e
    rw [if_neg (show a ≠ s.n by omega)] at e
    have e1 := (h2 a (by omega)).1
    rw [e] at e1
    split at e1
    · rw [hn] at e1; exact absurd e1 (by simp)
    · rw [(h2 b (by omega)).1] at e1
      have := Option.some.inj e1
      omega)
  omega
theorem BI.dq_le {i k : Nat} (h : BI mv nx V s0 s i k) : ∀ n j, j ≤ n → j < s.n → s.dq j ≤ j := by
  obtain ⟨⟨_, _, h0, _⟩, _, _, h4, _⟩ := h
  intro n
  induction n with
  | zero => intro j hj _; obtain rfl : j = 0 := by omega
            rw [h0]; omega
  | succ n ih =>
    intro j hj hn
    by_cases c : j = 0
    · subst c; rw [h0]; omega
    · obtain ⟨g1, _, _, _, g5, _⟩ := h4 j (by omega) hn
      have := ih (s.pq j) (by omega) (by omega)
      omega
/-! at the end -/
theorem BI.succ (h : BI mv nx V s0 s s.n 0) {j m : Nat} (hj : j < s.n) (hm : m < 16) (hmv : mv (s.q j) m = true) : ∃ jy, s.ix (nx (s.q j) m) = some jy ∧ jy < s.n ∧ s.q jy = nx (s.q j) m ∧ s.dq jy ≤ s.dq j + 1 ∧ (jy = 0 ∨ s.pq jy < j ∨ s.pq jy = j ∧ s.mq jy ≤ m) := by
  obtain ⟨⟨_, _, h0, _⟩, _, h3, h4, _, h6, h7⟩ := h
  obtain ⟨jy, e1, e2⟩ := h7 j m (Or.inl hj) hj hm hmv
  obtain ⟨e3, e4⟩ := h3 _ _ e1
  refine ⟨jy, e1, e3, e4, ?_, e2⟩
  by_cases c : jy = 0
  · subst c; rw [h0]; omega
  · obtain ⟨g1, _, _, _, g5, _⟩ := h4 jy (by omega) e3
    have := h6 (s.pq jy) j (by omega) hj
    omega
theorem BI.cw1 (h : BI mv nx V s0 s s.n 0) : ∀ (r j : Nat), j < s.n → cw mv nx T r (s.q j) = true → ∃ j', j' < s.n ∧ T (s.q j') = true ∧ s.dq j' ≤ s.dq j + r := by
  intro r
  induction r with
  | zero => intro j hj hc; exact ⟨j, hj, hc, by omega⟩
  | succ r ih =>
    intro j hj hc
    obtain ⟨k, g1, g2, g3⟩ := cw_succ.mp hc
    obtain ⟨jy, _, e2, e3, e4, _⟩ := h.succ hj g1 g2
    rw [← e3] at g3
    obtain ⟨j', a1, a2, a3⟩ := ih jy e2 g3
    exact ⟨j', a1, a2, by omega⟩
theorem BI.cw2 {i k : Nat} (h : BI mv nx V s0 s i k) : ∀ (n r j : Nat), j ≤ n → j < s.n → cw mv nx T r (s.q j) = true → cw mv nx T (s.dq j + r) s0 = true := by
  obtain ⟨⟨_, hq, h0, _⟩, _, _, h4, _⟩ := h
  intro n
  induction n with
  | zero =>
    intro r j hj _ hc
    obtain rfl : j = 0 := by omega
    rw [hq] at hc
    rw [h0, Nat.zero_add]; exact hc
  | succ n ih =>
    intro r j hj hn hc
    by_cases c : j = 0
    · subst c; rw [hq] at hc
      rw [h0, Nat.zero_add]; exact hc
    · obtain ⟨g1, g2, g3, g4, g5, _⟩ := h4 j (by omega) hn
      rw [← g4] at hc
      have := ih (r + 1) (s.pq j) (by omega) (by omega) (cw_succ.mpr ⟨_, g2, g3, hc⟩)
      rw [g5, show s.dq (s.pq j) + 1 + r = s.dq (s.pq j) + (r + 1) by omega]
      exact this
/-- the least steps to where T holds -/
theorem BI.least (h : BI mv nx V s0 s s.n 0) {j : Nat} (hj : j < s.n) (hT : T (s.q j) = true) (hl : ∀ j', j' < s.n → T (s.q j') = true → s.dq j ≤ s.dq j') : lsN mv nx T s0 = s.dq j := by
  have hn := h.n_le
  have hd := h.dq_le j j (Nat.le_refl _) hj
  refine frst_eq (by omega) ?_ (fun r hr => ?_)
  · have := h.cw2 (T := T) j 0 j (Nat.le_refl _) hj hT
    exact this
  · apply Bool.eq_false_iff.mpr
    intro hc
    have hc : cw mv nx T r s0 = true := hc
    rw [← h.1.2.1] at hc
    obtain ⟨j', a1, a2, a3⟩ := h.cw1 r 0 (by omega) hc
    have := hl j' a1 a2
    rw [h.1.2.2.1] at a3
    omega
theorem frst_none {p : Nat → Bool} {n : Nat} (h : ∀ j, j < n → p j = false) : frst p n 0 = n := by
  obtain ⟨_, g2, _, g4⟩ := frst_spec (p := p) n 0
  by_cases c : frst p n 0 < n
  · have := g4 (by omega)
    rw [h _ c] at this
    exact absurd this (by decide)
  · omega
theorem BI.none (h : BI mv nx V s0 s s.n 0) (hT : ∀ j, j < s.n → T (s.q j) = false) : lsN mv nx T s0 = 8192 := by
  refine frst_none (fun r _ => ?_)
  apply Bool.eq_false_iff.mpr
  intro hc
  have hc : cw mv nx T r s0 = true := hc
  rw [← h.1.2.1] at hc
  obtain ⟨j', a1, a2, a3⟩ := h.cw1 r 0 h.1.1 hc
  rw [hT j' a1] at a2
  exact absurd a2 (by decide)
/-- of the indices below n that have p, one with the least steps -/
theorem BI.pick (h : BI mv nx V s0 s s.n 0) (p : Nat → Bool) : (∃ j, j < s.n ∧ p j = true ∧ ∀ j', j' < s.n → p j' = true → j ≤ j' ∧ s.dq j ≤ s.dq j') ∨ ∀ j, j < s.n → p j = false := by
  obtain ⟨_, g2, g3, g4⟩ := frst_spec (p := p) s.n 0
  by_cases c : frst p s.n 0 < s.n
  · refine Or.inl ⟨_, c, g4 (by omega), fun j' a1 a2 => ?_⟩
    have hle : frst p s.n 0 ≤ j' := by
      by_cases c2 : j' < frst p s.n 0
      · rw [g3 j' (Nat.zero_le _) c2] at a2
        exact absurd a2 (by decide)
      · omega
    exact ⟨hle, h.2.2.2.2.2.1 _ _ hle a1⟩
  · exact Or.inr (fun j hj => g3 j (Nat.zero_le _) (by omega))
/-- the first row of moves is the one that the search holds -/
theorem BI.path (h : BI mv nx V s0 s s.n 0) {N : Nat} (hN : lsN mv nx T s0 = N) (hN2 : N < 8192) : ∀ i, i ≤ N → ∃ j, j < s.n ∧ s.ix (fsx mv nx T N s0 i) = some j ∧ s.q j = fsx mv nx T N s0 i ∧ s.dq j = i ∧ (0 < i → 0 < j ∧ s.q (s.pq j) = fsx mv nx T N s0 (i - 1) ∧ s.mq j = fsm mv nx T N s0 (i - 1)) ∧ ∀ j', j' < s.n → s.dq j' = i → cw mv nx T (N - i) (s.q j') = true → j ≤ j' := by
  obtain ⟨_, g2, g3, g4⟩ := frst_spec (p := fun r => cw mv nx T r s0) 8192 0
  have hcN : cw mv nx T N s0 = true := by
    have := g4 (by unfold lsN at hN; omega)
    unfold lsN at hN
    rw [hN] at this
    exact this
  have hmin : ∀ r, r < N → cw mv nx T r s0 = false := fun r hr => g3 r (Nat.zero_le _) (by unfold lsN at hN; omega)
  have hx := fsx_ok hcN
  intro i
  induction i with
  | zero =>
    intro _
    refine ⟨0, h.1.1, ?_, h.1.2.1, h.1.2.2.1, fun c => absurd c (by omega), fun _ _ _ _ => Nat.zero_le _⟩
    have := (h.2.1 0 h.1.1).1
    rw [h.1.2.1] at this
    exact this
  | succ i ih =>
    intro hi
    obtain ⟨j, j1, j2, j3, j4, _, j6⟩ := ih (by omega)
    have hcx := hx i (by omega)
    rw [show N - i = (N - 1 - i) + 1 by omega] at hcx
    obtain ⟨m1, m2, m3, m4⟩ := gmv_ok hcx
    rw [← j3] at m1 m2 m3 m4 hcx
    have hsucc : fsx mv nx T N s0 (i + 1) = nx (s.q j) (gmv mv nx T (N - 1 - i) (s.q j)) := by rw [fsx, j3]
    obtain ⟨jy, y1, y2, y3, y4, y5⟩ := h.succ j1 m1 m2
    rw [← hsucc] at y1 y3
    -- its steps are i + 1
    have hlow : ∀ j', j' < s.n → cw mv nx T (N - (i + 1)) (s.q j') = true → i + 1 ≤ s.dq j' := fun j' a1 a2 => by
      have := h.cw2 (T := T) j' _ j' (Nat.le_refl _) a1 a2
      by_cases c : i + 1 ≤ s.dq j'
      · exact c
      · rw [hmin _ (by omega)] at this
        exact absurd this (by decide)
    have hgy : cw mv nx T (N - (i + 1)) (s.q jy) = true := by rw [y3]; exact hx (i + 1) hi
    have hdy := hlow jy y2 hgy
    have hdy2 : s.dq jy = i + 1 := by omega
    -- good ones of this many steps have a good parent
    have hpar : ∀ z, z < s.n → s.dq z = i + 1 → cw mv nx T (N - (i + 1)) (s.q z) = true → 0 < z ∧ j ≤ s.pq z ∧ (s.pq z = j → gmv mv nx T (N - 1 - i) (s.q j) ≤ s.mq z) := fun z z1 z2 z3 => by
      have hz0 : 0 < z := by
        by_cases c : z = 0
        · subst c; rw [h.1.2.2.1] at z2; omega
        · omega
      obtain ⟨p1, p2, p3, p4, p5, _⟩ := h.2.2.2.1 z hz0 z1
      rw [← p4] at z3
      have hgp : cw mv nx T (N - i) (s.q (s.pq z)) = true := by
        rw [show N - i = (N - (i + 1)) + 1 by omega]
        exact cw_succ.mpr ⟨_, p2, p3, z3⟩
      refine ⟨hz0, j6 _ (by omega) (by omega) hgp, fun e => ?_⟩
      rw [e] at p3 z3
      by_cases c : gmv mv nx T (N - 1 - i) (s.q j) ≤ s.mq z
      · exact c
      · have := m4 (s.mq z) (by omega) p3
        rw [show N - 1 - i = N - (i + 1) by omega, z3] at this
        exact absurd this (by decide)
    obtain ⟨a1, a2, a3⟩ := hpar jy y2 hdy2 hgy
    have hpj : s.pq jy = j := by omega
    have hmj : s.mq jy = gmv mv nx T (N - 1 - i) (s.q j) := by have := a3 hpj; omega
    refine ⟨jy, y2, y1, y3, hdy2, fun _ => ⟨a1, ?_, ?_⟩, fun z z1 z2 z3 => ?_⟩
    · rw [hpj]; exact j3
    · rw [hmj]; unfold fsm; rw [show i + 1 - 1 = i by omega, ← j3]
    · obtain ⟨b1, b2, b3⟩ := hpar z z1 z2 z3
      by_cases c : jy ≤ z
      · exact c
      · have := h.2.2.2.2.1 z jy b1 (by omega) y2
        have b3' := b3
        by_cases e : s.pq z = j
        · have := b3 e
          omega
        · omega
end Bf
