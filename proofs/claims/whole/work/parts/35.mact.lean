/-! the reference: acts, images -/
def AS.brd (s : AS) (bd : AB) (n : Nat) (c : Nat → AB) : AS := (s.1, s.2.1, s.2.2.1, s.found, s.tl, s.tb, s.flt, bd, n, c, s.im, s.trl, s.tr)
def AS.img (s : AS) (i : Nat → Option AB) : AS := (s.1, s.2.1, s.2.2.1, s.found, s.tl, s.tb, s.flt, s.bd, s.na, s.ac, i, s.trl, s.tr)
/-- the acts with the board as it is now -/
def pshN (s : AS) : Nat := if s.na = 24 then 24 else s.na + 1
def pshC (s : AS) : Nat → AB := if s.na = 24 then (fun j => if j = 23 then s.bd else s.ac (j + 1)) else va_up s.ac s.na s.bd
theorem RM.brd {f f' : Nat → Int32} {a a' : Nat → Nat → Int32} {s : AS} (h : RM f a s) (hf : f' 3 = f 3 ∧ f' 4 = f 4 ∧ f' 6 = f 6 ∧ f' 23 = f 23) (ha : ∀ i, i < 58 ∨ i = 59 ∨ i = 65 → a' i = a i) {bd : AB} {n : Nat} {c : Nat → AB} (hb : ABm (a' 58) 0 bd) (hn : f' 11 = nI n) (hc : ∀ j, j < n → ABm (a' 58) (j + 1) (c j)) (hi : ∀ k, k < 2 → ∀ x, s.im k = some x → ABm (a' 58) (25 + k) x) : RM f' a' (s.brd bd n c) := by
  obtain ⟨h1, h2, h3, h4, h5, h6, h7, h8⟩ := h
  refine ⟨?_, by rw [hf.1]; exact h2, ⟨by rw [hf.2.1]; exact h3.1, by rw [ha 57 (by omega)]; exact h3.2⟩, by rw [hf.2.2.1]; exact h4, hb, ⟨hn, hc⟩, ?_, ⟨by rw [hf.2.2.2]; exact h8.1, by rw [ha 65 (by omega)]; exact h8.2⟩⟩
  · rw [ha 54 (by omega), ha 55 (by omega), ha 56 (by omega)]; exact h1
  · intro k hk
    rw [ha 59 (by omega)]
    rcases h7 k hk with g | ⟨x, g1, g2, g3⟩
    · exact Or.inl g
    · exact Or.inr ⟨x, g1, g2, hi k hk x g2⟩
/-- 16 ints come over from one place to another -/
def cpW (w : Nat → Int32) (p q : Nat) : Nat → Int32 := fun i => if 16 * q ≤ i ∧ i < 16 * q + 16 then w (16 * p + (i - 16 * q)) else w i
theorem cpW_in {w : Nat → Int32} {p q : Nat} {x : AB} (h : ABm w p x) : ABm (cpW w p q) q x := by
  obtain ⟨h1, h2, h3, h4, h5⟩ := h
  have key : ∀ t, t < 16 → cpW w p q (16 * q + t) = w (16 * p + t) := fun t ht => by
    unfold cpW; rw [if_pos (by omega)]; congr 1; omega
  refine ⟨by rw [show 16 * q = 16 * q + 0 from rfl, key 0 (by omega)]; exact h1, by rw [key 1 (by omega)]; exact h2, by rw [key 2 (by omega)]; exact h3, by rw [key 3 (by omega)]; exact h4, fun d hd => ?_⟩
  rw [Nat.add_assoc, key _ (by omega), Nat.add_assoc, key _ (by omega), ← Nat.add_assoc, ← Nat.add_assoc]
  exact h5 d hd
theorem ABm_eq {w w' : Nat → Int32} {q : Nat} {x : AB} (h : ABm w q x) (e : ∀ t, t < 16 → w' (16 * q + t) = w (16 * q + t)) : ABm w' q x := by
  obtain ⟨h1, h2, h3, h4, h5⟩ := h
  refine ⟨(e 0 (by omega)).trans h1, (e 1 (by omega)).trans h2, (e 2 (by omega)).trans h3, (e 3 (by omega)).trans h4, fun d hd => ?_⟩
  rw [Nat.add_assoc, e _ (by omega), Nat.add_assoc, e _ (by omega), ← Nat.add_assoc, ← Nat.add_assoc]
  exact h5 d hd
theorem cpW_out {w : Nat → Int32} {p q r : Nat} {x : AB} (hr : r ≠ q) (h : ABm w r x) : ABm (cpW w p q) r x := ABm_eq h (fun t ht => by unfold cpW; rw [if_neg (by omega)])
section MA
variable {N m : Nat} {f : Nat → Int32} {a : Nat → Nat → Int32} {b : Nat → Nat → Int64} {s : AS} {σ : Hp}
theorem vup_vup {α : Type} (g : Nat → α) (k : Nat) (v w : α) : va_up (va_up g k v) k w = va_up g k w := bx_uu g k v w
theorem copies_loop (hN : 66 ≤ N) {p q : Nat} (hp : p < 28) (hq : q < 28) (hne : p ≠ q) : ∀ (r n j : Nat), j + r = 16 → r < n → L_X9_copies_2 N 53 (nI (16 * p)) (nI (16 * q)) n (MH σ f (va_up a 58 (fun i => if 16 * q ≤ i ∧ i < 16 * q + j then a 58 (16 * p + (i - 16 * q)) else a 58 i)) b) (nI j) = some (MH σ f (va_up a 58 (cpW (a 58) p q)) b) := by
  intro r
  induction r with
  | zero =>
    intro n j hj hn
    obtain ⟨n, rfl⟩ : ∃ k, n = k + 1 := ⟨n - 1, by omega⟩
    obtain rfl : j = 16 := by omega
    rw [L_X9_copies_2.eq_2, if_pos (by decide +kernel)]
    rfl
  | succ r ih =>
    intro n j hj hn
    obtain ⟨n, rfl⟩ : ∃ k, n = k + 1 := ⟨n - 1, by omega⟩
    rw [L_X9_copies_2.eq_2, if_neg (by rw [show (16 : Int32) = nI 16 from rfl, nI_leI (by omega) (by omega)]; omega)]
    simp only [MH_rv hN, MH_f3 hN, MH_f4 hN, MH_f6 hN, MH_f7 hN, MH_f8 hN, MH_f9 hN, MH_f11 hN, MH_f16 hN, MH_f19 hN, MH_f20 hN, MH_f21 hN, MH_f23 hN, MH_r0 hN, MH_r1 hN, MH_r2 hN, MH_r5 hN, MH_r10 hN, MH_r12 hN, MH_r13 hN, MH_r14 hN, MH_r15 hN, MH_r17 hN, MH_r18 hN, MH_r22 hN, Option.bind_some]
    rw [nI_add, nI_add, MH_a58 hN (by omega)]
    simp only [Option.bind_some]
    rw [MH_s58 hN (by omega)]
    simp only [Option.bind_some]
    rw [nI_1, vup_vup, vup_s]
    have := ih n (j + 1) (by omega) (by omega)
    rw [← this]
    congr 3
    funext i
    by_cases c : i = 16 * q + j
    · subst c
      rw [upd_s, if_neg (by omega), if_pos (by omega)]
      congr 1; omega
    · rw [upd_n c]
      by_cases c2 : 16 * q ≤ i ∧ i < 16 * q + j
      · rw [if_pos c2, if_pos (by omega)]
      · rw [if_neg c2, if_neg (by omega)]
theorem copies_ok (hN : 66 ≤ N) {p q : Nat} (hp : p < 28) (hq : q < 28) (hne : p ≠ q) : m_X9_copies N (MH σ f a b) 53 (nI (16 * p)) (nI (16 * q)) = some (MH σ f (va_up a 58 (cpW (a 58) p q)) b) := by
  unfold m_X9_copies
  simp only [MH_rv hN, MH_f3 hN, MH_f4 hN, MH_f6 hN, MH_f7 hN, MH_f8 hN, MH_f9 hN, MH_f11 hN, MH_f16 hN, MH_f19 hN, MH_f20 hN, MH_f21 hN, MH_f23 hN, MH_r0 hN, MH_r1 hN, MH_r2 hN, MH_r5 hN, MH_r10 hN, MH_r12 hN, MH_r13 hN, MH_r14 hN, MH_r15 hN, MH_r17 hN, MH_r18 hN, MH_r22 hN, Option.bind_some]
  have := copies_loop (N := N) (σ := σ) (f := f) (a := a) (b := b) hN hp hq hne 16 fu 0 (by omega) (by decide)
  rw [nI_0] at this
  have e : va_up a 58 (fun i => if 16 * q ≤ i ∧ i < 16 * q + 0 then a 58 (16 * p + (i - 16 * q)) else a 58 i) = a := by
    funext i
    by_cases c : i = 58
    · subst c
      rw [vup_s]
      funext j
      rw [if_neg (by omega)]
    · rw [vup_n c]
  rw [e] at this
  rw [this]
  rfl
/-- all acts one place down -/
theorem known_loop (hN : 66 ≤ N) : ∀ (r n j : Nat), j + r = 384 → 16 ≤ j → r < n → L_X9_known_12 N 53 n (MH σ f (va_up a 58 (fun i => if 16 ≤ i ∧ i < j then a 58 (i + 16) else a 58 i)) b) (nI j) = some (MH σ f (va_up a 58 (fun i => if 16 ≤ i ∧ i < 384 then a 58 (i + 16) else a 58 i)) b) := by
  intro r
  induction r with
  | zero =>
    intro n j hj h16 hn
    obtain ⟨n, rfl⟩ : ∃ k, n = k + 1 := ⟨n - 1, by omega⟩
    obtain rfl : j = 384 := by omega
    rw [L_X9_known_12.eq_2, if_pos (by decide +kernel)]
  | succ r ih =>
    intro n j hj h16 hn
    obtain ⟨n, rfl⟩ : ∃ k, n = k + 1 := ⟨n - 1, by omega⟩
    rw [L_X9_known_12.eq_2, if_neg (by rw [show (384 : Int32) = nI 384 from rfl, nI_leI (by omega) (by omega)]; omega)]
    simp only [MH_rv hN, MH_f3 hN, MH_f4 hN, MH_f6 hN, MH_f7 hN, MH_f8 hN, MH_f9 hN, MH_f11 hN, MH_f16 hN, MH_f19 hN, MH_f20 hN, MH_f21 hN, MH_f23 hN, MH_r0 hN, MH_r1 hN, MH_r2 hN, MH_r5 hN, MH_r10 hN, MH_r12 hN, MH_r13 hN, MH_r14 hN, MH_r15 hN, MH_r17 hN, MH_r18 hN, MH_r22 hN, Option.bind_some]
    rw [show (16 : Int32) = nI 16 from rfl, nI_add, MH_a58 hN (by omega)]
    simp only [Option.bind_some]
    rw [MH_s58 hN (by omega)]
    simp only [Option.bind_some]
    rw [nI_1, vup_vup, vup_s]
    have := ih n (j + 1) (by omega) (by omega) (by omega)
    rw [← this]
    congr 3
    funext i
    by_cases c : i = j
    · subst c
      rw [upd_s, if_neg (by omega), if_pos (by omega)]
    · rw [upd_n c]
      by_cases c2 : 16 ≤ i ∧ i < j
      · rw [if_pos c2, if_pos (by omega)]
      · rw [if_neg c2, if_neg (by omega)]
theorem known_ok (hN : 66 ≤ N) (h : RM f a s) (hv : VA m s) : ∃ f' a', m_X9_known N (MH σ f a b) 53 = some (MH σ f' a' b) ∧ (∀ i, i ≠ 11 → f' i = f i) ∧ (∀ i, i ≠ 58 → a' i = a i) ∧ f' 11 = nI (pshN s) ∧ ABm (a' 58) 0 s.bd ∧ (∀ j, j < pshN s → ABm (a' 58) (j + 1) (pshC s j)) ∧ ∀ k, k < 2 → ∀ x, s.im k = some x → ABm (a' 58) (25 + k) x := by
  obtain ⟨hn24, _⟩ := hv.2.2.2.1
  obtain ⟨_, _, _, _, h5, h6, h7, _⟩ := h
  unfold m_X9_known
  simp only [MH_rv hN, MH_f3 hN, MH_f4 hN, MH_f6 hN, MH_f7 hN, MH_f8 hN, MH_f9 hN, MH_f11 hN, MH_f16 hN, MH_f19 hN, MH_f20 hN, MH_f21 hN, MH_f23 hN, MH_r0 hN, MH_r1 hN, MH_r2 hN, MH_r5 hN, MH_r10 hN, MH_r12 hN, MH_r13 hN, MH_r14 hN, MH_r15 hN, MH_r17 hN, MH_r18 hN, MH_r22 hN, Option.bind_some]
  rw [h6.1]
  have him : ∀ {w : Nat → Int32}, (∀ i, 400 ≤ i → w i = a 58 i) → ∀ k, k < 2 → ∀ x, s.im k = some x → ABm w (25 + k) x := by
    intro w hw k hk x hx
    rcases h7 k hk with ⟨_, g⟩ | ⟨y, _, g2, g3⟩
    · rw [g] at hx; cases hx
    · rw [g2] at hx; cases hx
      exact ABm_eq g3 (fun t ht => hw _ (by omega))
  by_cases c : s.na = 24
  · rw [c, if_pos (by decide +kernel)]
    have hl := known_loop (N := N) (σ := σ) (f := f) (a := a) (b := b) hN 368 fu 16 (by omega) (by omega) (by decide)
    have e : va_up a 58 (fun i => if 16 ≤ i ∧ i < 16 then a 58 (i + 16) else a 58 i) = a := by
      funext i
      by_cases c : i = 58
      · subst c
        rw [vup_s]
        funext j
        rw [if_neg (by omega)]
      · rw [vup_n c]
    rw [e] at hl
    rw [show (16 : Int32) = nI 16 from rfl, hl]
    simp only [Option.bind_some]
    rw [MH_put (j := 11) hN (by omega)]
    simp only [MH_rv hN, MH_f3 hN, MH_f4 hN, MH_f6 hN, MH_f7 hN, MH_f8 hN, MH_f9 hN, MH_f11 hN, MH_f16 hN, MH_f19 hN, MH_f20 hN, MH_f21 hN, MH_f23 hN, MH_r0 hN, MH_r1 hN, MH_r2 hN, MH_r5 hN, MH_r10 hN, MH_r12 hN, MH_r13 hN, MH_r14 hN, MH_r15 hN, MH_r17 hN, MH_r18 hN, MH_r22 hN, Option.bind_some]
    rw [upd_s, MH_put (j := 11) hN (by omega)]
    simp only [MH_rv hN, MH_f3 hN, MH_f4 hN, MH_f6 hN, MH_f7 hN, MH_f8 hN, MH_f9 hN, MH_f11 hN, MH_f16 hN, MH_f19 hN, MH_f20 hN, MH_f21 hN, MH_f23 hN, MH_r0 hN, MH_r1 hN, MH_r2 hN, MH_r5 hN, MH_r10 hN, MH_r12 hN, MH_r13 hN, MH_r14 hN, MH_r15 hN, MH_r17 hN, MH_r18 hN, MH_r22 hN, Option.bind_some]
    rw [upd_s, show ((23 : Int32) + 1) * nI 16 = nI (16 * 24) by decide +kernel, show (0 : Int32) = nI (16 * 0) from rfl, copies_ok hN (by omega) (by omega) (by omega)]
    refine ⟨_, _, rfl, fun i hi => by rw [upd_n hi, upd_n hi], fun i hi => by rw [vup_n hi, vup_n hi], ?_, ?_, ?_, ?_⟩
    · rw [upd_s]; unfold pshN; rw [if_pos c]; decide +kernel
    · rw [vup_s]
      refine cpW_out (by omega) (ABm_eq h5 (fun t ht => ?_))
      rw [vup_s, if_neg (by omega)]
    · intro j hj
      unfold pshN at hj
      rw [if_pos c] at hj
      unfold pshC
      rw [if_pos c, vup_s]
      by_cases c2 : j = 23
      · subst c2
        rw [if_pos rfl]
        refine cpW_in (ABm_eq h5 (fun t ht => ?_))
        rw [vup_s, if_neg (by omega)]
      · rw [if_neg c2]
        refine cpW_out (by omega) ?_
        have := h6.2 (j + 1) (by omega)
        obtain ⟨g1, g2, g3, g4, g5⟩ := this
        rw [vup_s]
        have key : ∀ t, t < 16 → (fun i => if 16 ≤ i ∧ i < 384 then a 58 (i + 16) else a 58 i) (16 * (j + 1) + t) = a 58 (16 * (j + 1 + 1) + t) := fun t ht => by
          show (if 16 ≤ 16 * (j + 1) + t ∧ 16 * (j + 1) + t < 384 then a 58 (16 * (j + 1) + t + 16) else _) = _
          rw [if_pos (by omega)]; congr 1; omega
        refine ⟨(key 0 (by omega)).trans g1, (key 1 (by omega)).trans g2, (key 2 (by omega)).trans g3, (key 3 (by omega)).trans g4, fun d hd => ⟨?_, ?_⟩⟩
        · rw [Nat.add_assoc]; exact (key (4 + d) (by omega)).trans (by rw [← Nat.add_assoc]; exact (g5 d hd).1)
        · rw [Nat.add_assoc]; exact (key (10 + d) (by omega)).trans (by rw [← Nat.add_assoc]; exact (g5 d hd).2)
    · refine him (fun i hi => ?_)
      rw [vup_s]; unfold cpW
      rw [if_neg (by omega), vup_s, if_neg (by omega)]
  · have hc : ¬ nI s.na = 24 := by rw [show (24 : Int32) = nI 24 from rfl]; exact ni_ne (by omega) (by omega) c
    rw [if_neg hc]
    simp only [MH_rv hN, MH_f3 hN, MH_f4 hN, MH_f6 hN, MH_f7 hN, MH_f8 hN, MH_f9 hN, MH_f11 hN, MH_f16 hN, MH_f19 hN, MH_f20 hN, MH_f21 hN, MH_f23 hN, MH_r0 hN, MH_r1 hN, MH_r2 hN, MH_r5 hN, MH_r10 hN, MH_r12 hN, MH_r13 hN, MH_r14 hN, MH_r15 hN, MH_r17 hN, MH_r18 hN, MH_r22 hN, Option.bind_some]
    rw [h6.1, MH_put (j := 11) hN (by omega)]
    simp only [MH_rv hN, MH_f3 hN, MH_f4 hN, MH_f6 hN, MH_f7 hN, MH_f8 hN, MH_f9 hN, MH_f11 hN, MH_f16 hN, MH_f19 hN, MH_f20 hN, MH_f21 hN, MH_f23 hN, MH_r0 hN, MH_r1 hN, MH_r2 hN, MH_r5 hN, MH_r10 hN, MH_r12 hN, MH_r13 hN, MH_r14 hN, MH_r15 hN, MH_r17 hN, MH_r18 hN, MH_r22 hN, Option.bind_some]
    rw [upd_s, nI_1, show (16 : Int32) = nI 16 from rfl, pk_mul, Nat.mul_comm, show (0 : Int32) = nI (16 * 0) from rfl, copies_ok hN (by omega) (by omega) (by omega)]
    refine ⟨_, _, rfl, fun i hi => by rw [upd_n hi], fun i hi => by rw [vup_n hi], ?_, ?_, ?_, ?_⟩
    · rw [upd_s]; unfold pshN; rw [if_neg c]
    · rw [vup_s]; exact cpW_out (by omega) h5
    · intro j hj
      unfold pshN at hj
      rw [if_neg c] at hj
      unfold pshC
      rw [if_neg c, vup_s]
      by_cases c2 : j = s.na
      · subst c2
        rw [vup_s]; exact cpW_in h5
      · rw [vup_n c2]; exact cpW_out (by omega) (h6.2 j (by omega))
    · refine him (fun i hi => ?_)
      rw [vup_s]; unfold cpW
      rw [if_neg (by omega)]
end MA
