/-! the reference's moves. What is told: discs, kinds, high -/
theorem ofN {α : Type} {a b : α} (h : a = b) : some a = some b := by rw [h]
/-- what mover reads: the number of discs, the kinds, how high -/
def Told (f : Nat → Int32) (w : Nat → Int32) (P H D : Nat) (kd : Nat → Nat) : Prop := w 0 = nI P ∧ w 2 = nI D ∧ P ≤ 4 ∧ D ≤ 6 ∧ H ≤ 6 ∧ f 21 = nI H ∧ ∀ d, d < D → kd d ≤ 5 ∧ (if nI d = f 20 then f 19 else w (4 + d)) = nI (kd d)
section Mov
variable {N : Nat} {σ : Hp} {f : Nat → Int32} {a : Nat → Nat → Int32} {b : Nat → Nat → Int64} {P H D : Nat} {kd : Nat → Nat}
theorem lying_loop (hN : 66 ≤ N) (hD : a 58 2 = nI D) (hD6 : D ≤ 6) {x p : Nat} (hx : x < 8192) (hp : p < 16) : ∀ (r n j : Nat), j + r = D → r < n → L_X9_lying_5 N (MH σ f a b) 53 (nI x) (nI p) n (nI (lset x p j)) (nI j) = some (nI (lset x p D)) := by
  intro r
  induction r with
  | zero =>
    intro n j hj hn
    obtain ⟨n, rfl⟩ : ∃ k, n = k + 1 := ⟨n - 1, by omega⟩
    obtain rfl : j = D := by omega
    rw [L_X9_lying_5.eq_2, MH_r10 hN]
    simp only [Option.bind_some]
    rw [show (2 : Int32) = nI 2 from rfl, MH_a58 hN (by omega)]
    simp only [Option.bind_some]
    rw [hD, if_pos (nI_le (Nat.le_refl _) (by omega))]
  | succ r ih =>
    intro n j hj hn
    obtain ⟨n, rfl⟩ : ∃ k, n = k + 1 := ⟨n - 1, by omega⟩
    have h64 := lset_64 (x := x) (p := p) (D := j) (by omega)
    rw [L_X9_lying_5.eq_2, MH_r10 hN]
    simp only [Option.bind_some]
    rw [show (2 : Int32) = nI 2 from rfl, MH_a58 hN (by omega)]
    simp only [Option.bind_some]
    rw [hD, if_neg (nI_ge (by omega) (by omega)), pegIn_ok (by omega) (by omega)]
    simp only [Option.bind_some]
    have h4 : pgx x j < 4 := Nat.mod_lt _ (by omega)
    have e : lset x p (j + 1) = lset x p j ||| (if pgx x j = p then 2 ^ j else 0) := rfl
    have hw := ih n (j + 1) (by omega) (by omega)
    rw [e] at hw
    by_cases c : pgx x j = p
    · rw [if_pos ((nI_eq (by omega) (by omega)).mpr c), lt, show (1 : Int32) = nI 1 from rfl, ni_shl (by omega) (by rw [Nat.one_mul]; exact Nat.pow_lt_pow_right (by omega) (by omega)), ni_or, nI_add, Nat.one_mul]
      rw [if_pos c] at hw
      exact hw
    · rw [if_neg (ni_ne (by omega) (by omega) c), show (0 : Int32) = nI 0 from rfl, ni_or, show (1 : Int32) = nI 1 from rfl, nI_add]
      rw [if_neg c] at hw
      exact hw
theorem lying_ok (hN : 66 ≤ N) (hD : a 58 2 = nI D) (hD6 : D ≤ 6) {x p : Nat} (hx : x < 8192) (hp : p < 16) : m_X9_lying N (MH σ f a b) 53 (nI x) (nI p) = some (nI (lset x p D)) := by
  unfold m_X9_lying
  rw [MH_rv hN]
  simp only [Option.bind_some]
  have := lying_loop (N := N) (σ := σ) (f := f) (a := a) (b := b) hN hD hD6 hx hp D fu 0 (by omega) (Nat.lt_of_le_of_lt hD6 (by decide))
  rw [show lset x p 0 = 0 from rfl, nI_0] at this
  rw [this]
  rfl
theorem kindTold_ok (hN : 66 ≤ N) (hT : Told f (a 58) P H D kd) {d : Nat} (hd : d < D) : m_X9_kindTold N (MH σ f a b) 53 (nI d) = some (nI (kd d)) := by
  obtain ⟨_, _, _, h6, _, _, hk⟩ := hT
  obtain ⟨_, h2⟩ := hk d hd
  unfold m_X9_kindTold
  rw [MH_rv hN]
  simp only [Option.bind_some]
  rw [MH_f20 hN]
  simp only [Option.bind_some]
  by_cases c : nI d = f 20
  · rw [if_pos c] at h2 ⊢
    rw [MH_f19 hN]
    exact ofN h2
  · rw [if_neg c] at h2 ⊢
    rw [MH_r10 hN]
    simp only [Option.bind_some]
    rw [show (4 : Int32) = nI 4 from rfl, nI_add, MH_a58 hN (by omega)]
    exact ofN h2
theorem low_D {x p D : Nat} (hD : D ≤ 6) (h : low (lset x p D) ≠ 6) : low (lset x p D) < D ∧ pgx x (low (lset x p D)) = p := by
  have key : ∀ r, r ≤ 6 → lowR (lset x p D) r ≠ 6 → (lset x p D).testBit (lowR (lset x p D) r) = true := by
    intro r
    induction r with
    | zero => intro _ h; exact absurd rfl h
    | succ r ih =>
      intro hr h
      rw [lowR] at h ⊢
      split
      case isTrue hb => exact hb
      case isFalse hb => rw [if_neg hb] at h; exact ih (by omega) h
  have := key 6 (Nat.le_refl _) h
  rw [lset_tb] at this
  exact of_decide_eq_true this
theorem mover_ok (hN : 66 ≤ N) (hT : Told f (a 58) P H D kd) {x p q : Nat} (hx : x < 8192) (hp : p < 4) (hq : q < 4) : m_X9_mover N (MH σ f a b) 53 (nI x) (nI p) (nI q) = some (nI (mvr H D kd x p q)) := by
  obtain ⟨_, hD, _, h6, hH6, hH, hk⟩ := id hT
  unfold m_X9_mover
  rw [MH_rv hN]
  simp only [Option.bind_some]
  rw [lying_ok hN hD h6 hx (by omega)]
  simp only [Option.bind_some]
  rw [lowest_ok (lset_64 h6)]
  simp only [Option.bind_some]
  rw [lying_ok hN hD h6 hx (by omega)]
  simp only [Option.bind_some]
  unfold mvr
  have l1 := low_le (lset x p D)
  have l2 := low_le (lset x q D)
  have s1 : lset x q D < 64 := lset_64 h6
  by_cases c1 : p = q
  · rw [if_pos ((nI_eq (by omega) (by omega)).mpr c1), if_pos (Or.inl c1)]; rfl
  rw [if_neg (ni_ne (by omega) (by omega) c1)]
  by_cases c2 : low (lset x p D) = 6
  · rw [if_pos (by rw [c2]; rfl), if_pos (Or.inr (Or.inl c2))]; rfl
  rw [if_neg (by rw [show (6 : Int32) = nI 6 from rfl]; exact ni_ne (by omega) (by omega) c2), lowest_ok s1]
  simp only [Option.bind_some]
  by_cases c3 : low (lset x q D) < low (lset x p D)
  · rw [if_neg (nI_ge c3 (by omega)), if_pos (Or.inr (Or.inr c3))]; rfl
  have hc : ¬ (p = q ∨ low (lset x p D) = 6 ∨ low (lset x q D) < low (lset x p D)) := by
    rintro (h | h | h)
    · exact c1 h
    · exact c2 h
    · exact c3 h
  rw [if_pos (nI_le (by omega) (by omega)), if_neg hc]
  obtain ⟨g1, g2⟩ := low_D h6 c2
  generalize low (lset x p D) = d at *
  rw [kindTold_ok hN hT g1]
  simp only [Option.bind_some]
  obtain ⟨k5, _⟩ := hk d g1
  have key : ∀ (B : Bool), (if (if B then (1 : Int32) else 0) = 0 then some (6 : Int32) else some (nI d)) = some (nI (if B then d else 6)) := by
    intro B
    cases B with
    | true => rw [if_neg (by decide +kernel)]; rfl
    | false => rw [if_pos (by decide +kernel)]; rfl
  have hbit : m_X9_has (nI (lset x q D)) (nI d + 1) = some (if (lset x q D).testBit (d + 1) then 1 else 0) := by rw [nI_1, has_ok (by omega) (by omega)]
  have hbits := bits_all (lset x q D) s1
  have hb6 := bc_le (lset x q D)
  have hsub : ∀ {u v : Nat}, u < 4 → v < 4 → (nI u - nI v = 1 ↔ u = v + 1) := by
    intro u v hu hv
    have : ∀ u, u < 4 → ∀ v, v < 4 → (nI u - nI v = 1 ↔ u = v + 1) := by decide +kernel
    exact this u hu v hv
  rw [show (if may H (kd d) d p q (lset x q D) (decide (4096 ≤ x)) = true then d else 6) = (if may H (kd d) d p q (lset x q D) (decide (4096 ≤ x)) then d else 6) from rfl, ← key]
  have kk : kd d = 0 ∨ kd d = 1 ∨ kd d = 2 ∨ kd d = 3 ∨ kd d = 4 ∨ kd d = 5 := by omega
  have n01 : ∀ a, a < 6 → ∀ b, b < 6 → (nI a = nI b ↔ a = b) := by decide +kernel
  have hodd : ((4096 : Int32) ≤ nI x) ↔ 4096 ≤ x := by rw [show (4096 : Int32) = nI 4096 from rfl, nI_leI (by omega) (by omega)]
  have hhi : (nI H ≤ nI (bc (lset x q D))) ↔ ¬ bc (lset x q D) < H := by rw [nI_leI (by omega) (by omega)]; omega
  simp only [hbit, hbits, MH_f21 hN, hH, hsub hp hq, hsub hq hp, Option.bind_some, hodd, hhi, cS]
  unfold may
  rcases kk with e | e | e | e | e | e
  all_goals (rw [e])
  · simp [show ¬ nI 0 = 1 by decide +kernel, show ¬ nI 0 = 2 by decide +kernel, show ¬ nI 0 = 3 by decide +kernel, show nI 0 < 4 by decide +kernel]
  · simp [show nI 1 = 1 by decide +kernel]
  · by_cases q1 : p = q + 1
    · simp [show ¬ nI 2 = 1 by decide +kernel, show nI 2 = 2 by decide +kernel, q1]
    · by_cases q2 : q = p + 1
      · simp [show ¬ nI 2 = 1 by decide +kernel, show nI 2 = 2 by decide +kernel, q1, q2]
      · simp [show ¬ nI 2 = 1 by decide +kernel, show nI 2 = 2 by decide +kernel, show ¬ nI 2 = 3 by decide +kernel, show nI 2 < 4 by decide +kernel, q1, q2]
  · cases hb : (lset x q D).testBit (d + 1)
    · simp [show ¬ nI 3 = 1 by decide +kernel, show ¬ nI 3 = 2 by decide +kernel, show nI 3 = 3 by decide +kernel]
    · simp [show ¬ nI 3 = 1 by decide +kernel, show ¬ nI 3 = 2 by decide +kernel, show nI 3 = 3 by decide +kernel, show nI 3 < 4 by decide +kernel]
  · by_cases q1 : bc (lset x q D) < H
    · simp [show ¬ nI 4 = 1 by decide +kernel, show ¬ nI 4 = 2 by decide +kernel, show ¬ nI 4 = 3 by decide +kernel, show ¬ nI 4 < 4 by decide +kernel, show nI 4 = 4 by decide +kernel, q1]
    · simp [show ¬ nI 4 = 1 by decide +kernel, show ¬ nI 4 = 2 by decide +kernel, show ¬ nI 4 = 3 by decide +kernel, show ¬ nI 4 < 4 by decide +kernel, show nI 4 = 4 by decide +kernel, q1]
  · by_cases q1 : bc (lset x q D) < H
    · by_cases q2 : 4096 ≤ x
      · simp [show ¬ nI 5 = 1 by decide +kernel, show ¬ nI 5 = 2 by decide +kernel, show ¬ nI 5 = 3 by decide +kernel, show ¬ nI 5 < 4 by decide +kernel, show ¬ nI 5 = 4 by decide +kernel, q1, q2]
      · simp [show ¬ nI 5 = 1 by decide +kernel, show ¬ nI 5 = 2 by decide +kernel, show ¬ nI 5 = 3 by decide +kernel, show ¬ nI 5 < 4 by decide +kernel, show ¬ nI 5 = 4 by decide +kernel, q1, q2]
    · simp [show ¬ nI 5 = 1 by decide +kernel, show ¬ nI 5 = 2 by decide +kernel, show ¬ nI 5 = 3 by decide +kernel, show ¬ nI 5 < 4 by decide +kernel, show ¬ nI 5 = 4 by decide +kernel, q1]
end Mov
