/-! what both hold: the state -/
/-- a board: pegs, high, discs, moves, kinds, pegs of the discs; no pegs: none -/
abbrev AB : Type := Nat × Nat × Nat × Nat × (Nat → Nat) × (Nat → Nat)
abbrev AB.P (b : AB) : Nat := b.1
abbrev AB.H (b : AB) : Nat := b.2.1
abbrev AB.D (b : AB) : Nat := b.2.2.1
abbrev AB.M (b : AB) : Nat := b.2.2.2.1
abbrev AB.kd (b : AB) : Nat → Nat := b.2.2.2.2.1
abbrev AB.pg (b : AB) : Nat → Nat := b.2.2.2.2.2
def noB : AB := (0, 0, 0, 0, fun _ => 0, fun _ => 0)
/-- a board as it can be; m: at most so many moves -/
def VB (m : Nat) (b : AB) : Prop := b = noB ∨ ((b.P = 3 ∨ b.P = 4) ∧ 1 ≤ b.H ∧ b.H ≤ 6 ∧ 1 ≤ b.D ∧ b.D ≤ 6 ∧ b.M ≤ m ∧ (∀ d, d < b.D → 1 ≤ b.kd d ∧ b.kd d ≤ 5 ∧ b.pg d < b.P) ∧ ∀ d, b.D ≤ d → b.kd d = 0 ∧ b.pg d = 0)
/-- lanes, sizes, items, finding; bytes on the tape and how many; fault; board; acts; images; the trace -/
abbrev AS : Type := (Nat → Int32) × (Nat → Nat) × (Nat → Nat → Int32) × Int32 × Nat × (Nat → Nat) × Int32 × AB × Nat × (Nat → AB) × (Nat → Option AB) × Nat × (Nat → Int32)
abbrev AS.lane (s : AS) : Nat → Int32 := s.1
abbrev AS.size (s : AS) : Nat → Nat := s.2.1
abbrev AS.items (s : AS) : Nat → Nat → Int32 := s.2.2.1
abbrev AS.found (s : AS) : Int32 := s.2.2.2.1
abbrev AS.tl (s : AS) : Nat := s.2.2.2.2.1
abbrev AS.tb (s : AS) : Nat → Nat := s.2.2.2.2.2.1
abbrev AS.flt (s : AS) : Int32 := s.2.2.2.2.2.2.1
abbrev AS.bd (s : AS) : AB := s.2.2.2.2.2.2.2.1
abbrev AS.na (s : AS) : Nat := s.2.2.2.2.2.2.2.2.1
abbrev AS.ac (s : AS) : Nat → AB := s.2.2.2.2.2.2.2.2.2.1
abbrev AS.im (s : AS) : Nat → Option AB := s.2.2.2.2.2.2.2.2.2.2.1
abbrev AS.trl (s : AS) : Nat := s.2.2.2.2.2.2.2.2.2.2.2.1
abbrev AS.tr (s : AS) : Nat → Int32 := s.2.2.2.2.2.2.2.2.2.2.2.2
/-- another finding -/
def AS.fnd (s : AS) (v : Int32) : AS := (s.1, s.2.1, s.2.2.1, v, s.2.2.2.2)
/-- other rows, no finding -/
def AS.rws (s : AS) (l : Nat → Int32) (z : Nat → Nat) (it : Nat → Nat → Int32) : AS := (l, z, it, 0, s.2.2.2.2)
/-- what holds of the state; m: how many calls at most there were -/
def VA (m : Nat) (s : AS) : Prop :=
  (∀ k, k < 8 → (s.lane k = -1 ∨ s.lane k = 0 ∨ s.lane k = 1 ∨ s.lane k = 2) ∧ s.size k ≤ 40) ∧ (s.tl ≤ 60 ∧ ∀ j, j < s.tl → s.tb j < 256) ∧ VB m s.bd ∧ (s.na ≤ 24 ∧ ∀ j, j < s.na → VB m (s.ac j) ∧ s.ac j ≠ noB) ∧ (∀ k, k < 2 → ∀ b, s.im k = some b → VB m b ∧ b ≠ noB) ∧ s.trl ≤ 16 ∧ (s.bd = noB → s.na = 0)
/-- a board in sixteen ints of the reference's row -/
def ABm (w : Nat → Int32) (k : Nat) (b : AB) : Prop := w (16 * k) = nI b.P ∧ w (16 * k + 1) = nI b.H ∧ w (16 * k + 2) = nI b.D ∧ w (16 * k + 3) = nI b.M ∧ ∀ d, d < 6 → w (16 * k + 4 + d) = nI (b.kd d) ∧ w (16 * k + 10 + d) = nI (b.pg d)
/-- the reference holds the state -/
def RM (f : Nat → Int32) (a : Nat → Nat → Int32) (s : AS) : Prop :=
  (∀ k, k < 8 → a 55 k = s.lane k ∧ (s.lane k ≠ -1 → a 56 k = nI (s.size k)) ∧ ∀ j, j < 40 → a 54 (40 * k + j) = s.items k j) ∧ f 3 = s.found ∧ (f 4 = nI s.tl ∧ ∀ j, j < s.tl → a 57 j = (nI (s.tb j)).toInt8.toInt32) ∧ f 6 = s.flt ∧ ABm (a 58) 0 s.bd ∧ (f 11 = nI s.na ∧ ∀ j, j < s.na → ABm (a 58) (j + 1) (s.ac j)) ∧ (∀ k, k < 2 → (a 59 k = 0 ∧ s.im k = none) ∨ ∃ b, a 59 k = 1 ∧ s.im k = some b ∧ ABm (a 58) (25 + k) b) ∧ (f 23 = nI s.trl ∧ ∀ j, j < s.trl → a 65 j = s.tr j)
/-- what a call of the reference does: its answer, and what is held then -/
def MOp (N : Nat) (f : Nat → Int32) (a : Nat → Nat → Int32) (b : Nat → Nat → Int64) (m : Hp → Option (Int32 × Hp)) (r : Int32) (s' : AS) : Prop :=
  ∀ σ : Hp, ∃ f' a' b', m (MH σ f a b) = some (r, MH σ f' a' b') ∧ RM f' a' s'
theorem upd_s {f : Nat → Int32} {k : Nat} {v : Int32} : upd f k v k = v := pk_us
theorem upd_n {f : Nat → Int32} {k j : Nat} {v : Int32} (h : j ≠ k) : upd f k v j = f j := pk_un h
theorem vup_s {α : Type} {g : Nat → α} {k : Nat} {v : α} : va_up g k v k = v := if_pos rfl
theorem vup_n {α : Type} {g : Nat → α} {k j : Nat} {v : α} (h : j ≠ k) : va_up g k v j = g j := if_neg h
theorem RM.fnd {f : Nat → Int32} {a : Nat → Nat → Int32} {s : AS} (h : RM f a s) (v : Int32) : RM (upd f 3 v) a (s.fnd v) := by
  obtain ⟨h1, h2, h3, h4, h5, h6, h7, h8⟩ := h
  exact ⟨h1, upd_s, ⟨by rw [upd_n (by decide)]; exact h3.1, h3.2⟩, by rw [upd_n (by decide)]; exact h4, h5, ⟨by rw [upd_n (by decide)]; exact h6.1, h6.2⟩, h7, ⟨by rw [upd_n (by decide)]; exact h8.1, h8.2⟩⟩
section Small
variable {N : Nat} {σ : Hp} {f : Nat → Int32} {a : Nat → Nat → Int32} {b : Nat → Nat → Int64}
theorem finds_ok (hN : 66 ≤ N) (x : Int32) : m_X9_finds N (MH σ f a b) 53 x = some (-1000010 - x, MH σ (upd f 3 x) a b) := by
  unfold m_X9_finds
  simp only [MH_rv hN, MH_f3 hN, MH_f4 hN, MH_f6 hN, MH_f7 hN, MH_f8 hN, MH_f9 hN, MH_f11 hN, MH_f16 hN, MH_f19 hN, MH_f20 hN, MH_f21 hN, MH_f23 hN, MH_r0 hN, MH_r1 hN, MH_r2 hN, MH_r5 hN, MH_r10 hN, MH_r12 hN, MH_r13 hN, MH_r14 hN, MH_r15 hN, MH_r17 hN, MH_r18 hN, MH_r22 hN, Option.bind_some, MH_put (j := 3) hN (by omega)]
theorem good_ok (hN : 66 ≤ N) (x : Int32) : m_X9_good N (MH σ f a b) 53 x = some (x, MH σ (upd f 3 0) a b) := by
  unfold m_X9_good
  simp only [MH_rv hN, MH_f3 hN, MH_f4 hN, MH_f6 hN, MH_f7 hN, MH_f8 hN, MH_f9 hN, MH_f11 hN, MH_f16 hN, MH_f19 hN, MH_f20 hN, MH_f21 hN, MH_f23 hN, MH_r0 hN, MH_r1 hN, MH_r2 hN, MH_r5 hN, MH_r10 hN, MH_r12 hN, MH_r13 hN, MH_r14 hN, MH_r15 hN, MH_r17 hN, MH_r18 hN, MH_r22 hN, Option.bind_some, MH_put (j := 3) hN (by omega)]
theorem isRow_ok (x : Int32) : m_X9_isRow x = some (if 0 ≤ x ∧ x ≤ 7 then 1 else 0) := by
  unfold m_X9_isRow
  rw [show (0 : Int64) = (0 : Int32).toInt64 by decide +kernel, show (7 : Int64) = (7 : Int32).toInt64 by decide +kernel, i64_in]
  simp only [Option.bind_some, zb01]
end Small
/-- 1 or 0 -/
theorem ite10 {α : Type} {c : Prop} [Decidable c] {x y : α} : (if (if c then (1 : Int32) else 0) = 0 then x else y) = if c then y else x := by
  by_cases h : c
  · rw [if_pos h, if_neg (by decide +kernel), if_pos h]
  · rw [if_neg h, if_pos rfl, if_neg h]
