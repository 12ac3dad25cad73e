/-! rows: what the calls do -/
/-- the number of an int that isn't below 0 -/
abbrev nt (x : Int32) : Nat := x.toNatClampNeg
theorem nt_nI {k : Nat} (h : k < 2 ^ 31) : nt (nI k) = k := nI_clamp h
def o_row (s : AS) (r l n : Int32) : Int32 × AS :=
  if 0 ≤ r ∧ r ≤ 7 then (if 0 ≤ l ∧ l ≤ 2 then (if n ≤ 40 then (if 0 ≤ n then (n, s.rws (va_up s.lane (nt r) l) (va_up s.size (nt r) (nt n)) (va_up s.items (nt r) (fun _ => 0))) else (-1000014, s.fnd 4)) else (-1000001, s)) else (-1000001, s)) else (-1000001, s)
/-- as many of the lowest bits as the lane has -/
def cutv (l v : Int32) : Int32 := if l = 0 then v.toInt8.toInt32 else if l = 1 then v.toInt16.toInt32 else v
def o_set (s : AS) (r i v : Int32) : Int32 × AS :=
  if 0 ≤ r ∧ r ≤ 7 then (if s.lane (nt r) = -1 then (-1000011, s.fnd 1) else if 0 ≤ i ∧ i < nI (s.size (nt r)) then (cutv (s.lane (nt r)) v, s.rws s.lane s.size (va_up s.items (nt r) (upd (s.items (nt r)) (nt i) (cutv (s.lane (nt r)) v)))) else (-1000012, s.fnd 2)) else (-1000001, s)
/-- n items from i on are there -/
def wthn (s : AS) (r : Nat) (i n : Int32) : Prop := 0 ≤ i ∧ 0 ≤ n ∧ nt i + nt n ≤ s.size r
def wthB (s : AS) (r : Nat) (i n : Int32) : Bool := decide (0 ≤ i) && decide (0 ≤ n) && decide (nt i + nt n ≤ s.size r)
def o_copy (s : AS) (x i y j n : Int32) : Int32 × AS :=
  if (0 ≤ x ∧ x ≤ 7) ∧ (0 ≤ y ∧ y ≤ 7) then (if s.lane (nt x) = -1 ∨ s.lane (nt y) = -1 then (-1000011, s.fnd 1) else if s.lane (nt x) = s.lane (nt y) then (if wthB s (nt x) i n && wthB s (nt y) j n then (n, s.rws s.lane s.size (va_up s.items (nt y) (fun k => if nt j ≤ k ∧ k < nt j + nt n then s.items (nt x) (nt i + (k - nt j)) else s.items (nt y) k))) else (-1000012, s.fnd 2)) else (-1000015, s.fnd 5)) else (-1000001, s)
def o_drop (s : AS) (r : Int32) : Int32 × AS :=
  if 0 ≤ r ∧ r ≤ 7 then (if s.lane (nt r) = -1 then (-1000011, s.fnd 1) else (nI (s.size (nt r)), s.rws (va_up s.lane (nt r) (-1)) s.size s.items)) else (-1000001, s)
/-! the reference's rows -/
theorem RM.rws {f : Nat → Int32} {a a' : Nat → Nat → Int32} {s : AS} {l : Nat → Int32} {z : Nat → Nat} {it : Nat → Nat → Int32} (h : RM f a s) (ha : ∀ i, i ≠ 54 → i ≠ 55 → i ≠ 56 → a' i = a i) (hr : ∀ k, k < 8 → a' 55 k = l k ∧ (l k ≠ -1 → a' 56 k = nI (z k)) ∧ ∀ j, j < 40 → a' 54 (40 * k + j) = it k j) : RM (upd f 3 0) a' (s.rws l z it) := by
  obtain ⟨h1, h2, h3, h4, h5, h6, h7, h8⟩ := h
  exact ⟨hr, upd_s, ⟨by rw [upd_n (by decide)]; exact h3.1, by rw [ha 57 (by decide) (by decide) (by decide)]; exact h3.2⟩, by rw [upd_n (by decide)]; exact h4, by rw [ha 58 (by decide) (by decide) (by decide)]; exact h5, ⟨by rw [upd_n (by decide)]; exact h6.1, by rw [ha 58 (by decide) (by decide) (by decide)]; exact h6.2⟩, by rw [ha 59 (by decide) (by decide) (by decide), ha 58 (by decide) (by decide) (by decide)]; exact h7, ⟨by rw [upd_n (by decide)]; exact h8.1, by rw [ha 65 (by decide) (by decide) (by decide)]; exact h8.2⟩⟩
theorem i7 {r : Int32} (h : 0 ≤ r ∧ r ≤ 7) : ∃ k, k < 8 ∧ r = nI k := by
  obtain ⟨k, h1, h2⟩ := ni_of (n := 7) (by omega) h.1 (by rw [show nI 7 = 7 from rfl]; exact h.2)
  exact ⟨k, by omega, h2⟩
section Rows1
variable {N m : Nat} {f : Nat → Int32} {a : Nat → Nat → Int32} {b : Nat → Nat → Int64} {s : AS}
theorem row_loop {σ : Hp} (hN : 66 ≤ N) {k : Nat} (hk : k < 8) (v3 : Int32) : ∀ (r n j : Nat) (a : Nat → Nat → Int32), j + r = 40 → r < n → ∃ a', L_X9_row_55 N 53 (nI k) v3 n (MH σ f a b) (nI j) = some (MH σ f a' b) ∧ (∀ i, i ≠ 54 → a' i = a i) ∧ ∀ i, a' 54 i = if 40 * k + j ≤ i ∧ i < 40 * k + 40 then 0 else a 54 i := by
  intro r
  induction r with
  | zero =>
    intro n j a hj hn
    obtain ⟨n, rfl⟩ : ∃ k, n = k + 1 := ⟨n - 1, by omega⟩
    obtain rfl : j = 40 := by omega
    refine ⟨a, ?_, fun _ _ => rfl, fun i => ?_⟩
    · rw [L_X9_row_55.eq_2, if_pos (by decide +kernel)]
    · rw [if_neg (by omega)]
  | succ r ih =>
    intro n j a hj hn
    obtain ⟨n, rfl⟩ : ∃ k, n = k + 1 := ⟨n - 1, by omega⟩
    obtain ⟨a', h1, h2, h3⟩ := ih n (j + 1) (va_up a 54 (upd (a 54) (40 * k + j) 0)) (by omega) (by omega)
    refine ⟨a', ?_, fun i hi => by rw [h2 i hi, vup_n hi], fun i => ?_⟩
    · rw [L_X9_row_55.eq_2, if_neg (by rw [show (40 : Int32) = nI 40 from rfl, nI_leI (by omega) (by omega)]; omega)]
      simp only [MH_rv hN, MH_f3 hN, MH_f4 hN, MH_f6 hN, MH_f7 hN, MH_f8 hN, MH_f9 hN, MH_f11 hN, MH_f16 hN, MH_f19 hN, MH_f20 hN, MH_f21 hN, MH_f23 hN, MH_r0 hN, MH_r1 hN, MH_r2 hN, MH_r5 hN, MH_r10 hN, MH_r12 hN, MH_r13 hN, MH_r14 hN, MH_r15 hN, MH_r17 hN, MH_r18 hN, MH_r22 hN, Option.bind_some]
      rw [show (40 : Int32) = nI 40 from rfl, pk_mul, nI_add, MH_s54 hN (by omega)]
      simp only [Option.bind_some]
      rw [nI_1]
      exact h1
    · rw [h3, vup_s]
      by_cases c : i = 40 * k + j
      · subst c; rw [if_neg (by omega), upd_s, if_pos (by omega)]
      · rw [upd_n c]
        by_cases c2 : 40 * k + (j + 1) ≤ i ∧ i < 40 * k + 40
        · rw [if_pos c2, if_pos (by omega)]
        · rw [if_neg c2, if_neg (by omega)]
theorem mo_row (hN : 66 ≤ N) (h : RM f a s) (r l n : Int32) : MOp N f a b (fun σ => m_X9_row N σ 53 r l n) (o_row s r l n).1 (o_row s r l n).2 := by
  intro σ
  show ∃ f' a' b', m_X9_row N (MH σ f a b) 53 r l n = _ ∧ _
  unfold m_X9_row o_row
  rw [MH_rv hN, isRow_ok]
  simp only [Option.bind_some, ite10]
  by_cases c1 : 0 ≤ r ∧ r ≤ 7
  · obtain ⟨k, hk, rfl⟩ := i7 c1
    rw [if_pos c1, if_pos c1, show (0 : Int64) = (0 : Int32).toInt64 by decide +kernel, show (2 : Int64) = (2 : Int32).toInt64 by decide +kernel, i64_in]
    simp only [Option.bind_some, ite10]
    by_cases c2 : 0 ≤ l ∧ l ≤ 2
    · rw [if_pos c2, if_pos c2]
      by_cases c3 : n ≤ 40
      · rw [if_pos c3, if_pos c3]
        by_cases c4 : 0 ≤ n
        · obtain ⟨q, hq, rfl⟩ := ni_of (n := 40) (by omega) c4 (by rw [show nI 40 = 40 from rfl]; exact c3)
          rw [if_pos c4, if_pos c4]
          simp only [MH_rv hN, MH_f3 hN, MH_f4 hN, MH_f6 hN, MH_f7 hN, MH_f8 hN, MH_f9 hN, MH_f11 hN, MH_f16 hN, MH_f19 hN, MH_f20 hN, MH_f21 hN, MH_f23 hN, MH_r0 hN, MH_r1 hN, MH_r2 hN, MH_r5 hN, MH_r10 hN, MH_r12 hN, MH_r13 hN, MH_r14 hN, MH_r15 hN, MH_r17 hN, MH_r18 hN, MH_r22 hN, Option.bind_some]
          rw [MH_s55 hN hk]
          simp only [MH_rv hN, MH_f3 hN, MH_f4 hN, MH_f6 hN, MH_f7 hN, MH_f8 hN, MH_f9 hN, MH_f11 hN, MH_f16 hN, MH_f19 hN, MH_f20 hN, MH_f21 hN, MH_f23 hN, MH_r0 hN, MH_r1 hN, MH_r2 hN, MH_r5 hN, MH_r10 hN, MH_r12 hN, MH_r13 hN, MH_r14 hN, MH_r15 hN, MH_r17 hN, MH_r18 hN, MH_r22 hN, Option.bind_some]
          rw [MH_s56 hN hk]
          simp only [Option.bind_some]
          obtain ⟨a', h1, h2, h3⟩ := row_loop (σ := σ) (f := f) (b := b) hN hk (nI q) 40 fu 0 (va_up (va_up a 55 (upd (a 55) k l)) 56 (upd (va_up a 55 (upd (a 55) k l) 56) k (nI q))) (by omega) (by decide)
          rw [nI_0] at h1
          rw [h1]
          simp only [Option.bind_some]
          rw [good_ok hN]
          refine ⟨_, a', b, rfl, ?_⟩
          rw [nt_nI (by omega), nt_nI (by omega)]
          refine h.rws (fun i g1 g2 g3 => by rw [h2 i g1, vup_n g3, vup_n g2]) (fun i hi => ?_)
          obtain ⟨r1, r2, r3⟩ := h.1 i hi
          refine ⟨?_, fun hl => ?_, fun j hj => ?_⟩
          · rw [h2 55 (by decide), vup_n (by decide), vup_s]
            by_cases e : i = k
            · subst e; rw [upd_s, vup_s]
            · rw [upd_n e, vup_n e, r1]
          · rw [h2 56 (by decide), vup_s, vup_n (by decide)]
            by_cases e : i = k
            · subst e; rw [upd_s, vup_s]
            · rw [vup_n e] at hl
              rw [upd_n e, vup_n e, r2 hl]
          · rw [h3, vup_n (by decide), vup_n (by decide)]
            by_cases e : i = k
            · subst e; rw [if_pos (by omega), vup_s]
            · rw [if_neg (by omega), vup_n e, r3 j hj]
        · rw [if_neg c4, if_neg c4, finds_ok hN]
          exact ⟨_, a, b, rfl, h.fnd 4⟩
      · rw [if_neg c3, if_neg c3]; exact ⟨f, a, b, rfl, h⟩
    · rw [if_neg c2, if_neg c2]; exact ⟨f, a, b, rfl, h⟩
  · rw [if_neg c1, if_neg c1]; exact ⟨f, a, b, rfl, h⟩
end Rows1
