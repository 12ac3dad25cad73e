/-! numbers -/
theorem ni_lit (n : Nat) : (OfNat.ofNat n : Int32) = nI n := rfl
theorem ni_and (a b : Nat) : nI a &&& nI b = nI (a &&& b) := by
  apply Int32.toBitVec_inj.1
  show BitVec.ofNat 32 a &&& BitVec.ofNat 32 b = BitVec.ofNat 32 (a &&& b)
  apply BitVec.eq_of_getLsbD_eq
  intro i hi
  simp [hi]
theorem ni_or (a b : Nat) : nI a ||| nI b = nI (a ||| b) := by
  apply Int32.toBitVec_inj.1
  show BitVec.ofNat 32 a ||| BitVec.ofNat 32 b = BitVec.ofNat 32 (a ||| b)
  apply BitVec.eq_of_getLsbD_eq
  intro i hi
  simp [hi]
theorem ni_xor (a b : Nat) : nI a ^^^ nI b = nI (a ^^^ b) := by
  apply Int32.toBitVec_inj.1
  show BitVec.ofNat 32 a ^^^ BitVec.ofNat 32 b = BitVec.ofNat 32 (a ^^^ b)
  apply BitVec.eq_of_getLsbD_eq
  intro i hi
  simp [hi]
theorem ni_sl : ∀ n, n < 32 → ((nI n &&& 31).toBitVec.smod 32).toNat = n := by decide +kernel
theorem ni_shl {n k : Nat} (hk : k < 32) (h : n * 2 ^ k < 2 ^ 32) : nI n <<< (nI k &&& 31) = nI (n * 2 ^ k) := pk_shlN _ k (ni_sl k hk) h
theorem ni_shr {n k : Nat} (hn : n < 2 ^ 31) (hk : k < 32) : nI n >>> (nI k &&& 31) = nI (n / 2 ^ k) := pk_shrN hn _ k (ni_sl k hk)
/-- a bit of a number, as the programs ask for it -/
theorem ni_bit {n k : Nat} (hn : n < 2 ^ 31) (hk : k < 32) : (nI n >>> (nI k &&& 31)) &&& 1 = nI (n / 2 ^ k % 2) := by
  rw [ni_shr hn hk]
  exact pk_andN (by have := Nat.div_le_self n (2 ^ k); omega) 1 (by decide +kernel)
theorem ni_ne {a b : Nat} (ha : a < 2 ^ 31) (hb : b < 2 ^ 31) (h : a ≠ b) : ¬ nI a = nI b := fun e => h ((nI_eq ha hb).mp e)
theorem tb_div (n k : Nat) : n / 2 ^ k % 2 = if n.testBit k then 1 else 0 := by
  rw [Nat.testBit_eq_decide_div_mod_eq]
  rcases Nat.mod_two_eq_zero_or_one (n / 2 ^ k) with h | h <;> simp [h]
/-- the 32 bits turned over -/
theorem ni_not {m : Nat} (h : m < 2 ^ 32) : nI m ^^^ (-1) = nI (2 ^ 32 - 1 - m) := by
  apply Int32.toBitVec_inj.1
  show BitVec.ofNat 32 m ^^^ (-1 : Int32).toBitVec = BitVec.ofNat 32 (2 ^ 32 - 1 - m)
  rw [show (-1 : Int32).toBitVec = BitVec.allOnes 32 by decide +kernel, BitVec.xor_allOnes]
  apply BitVec.eq_of_toNat_eq
  rw [BitVec.toNat_not, BitVec.toNat_ofNat, BitVec.toNat_ofNat, Nat.mod_eq_of_lt h, Nat.mod_eq_of_lt (show 2 ^ 32 - 1 - m < 2 ^ 32 by omega)]
theorem tb_not {m i : Nat} (h : m < 2 ^ 32) (hi : i < 32) : (2 ^ 32 - 1 - m).testBit i = !m.testBit i := by
  have e : 2 ^ 32 - 1 - m = (BitVec.ofNat 32 m).not.toNat := by
    show _ = (~~~ BitVec.ofNat 32 m).toNat
    rw [BitVec.toNat_not, BitVec.toNat_ofNat, Nat.mod_eq_of_lt h]
  rw [e]
  show (~~~ BitVec.ofNat 32 m).getLsbD i = _
  rw [BitVec.getLsbD_not, BitVec.getLsbD_ofNat]
  simp [hi]
/-! comparing with numbers of the other kind -/
theorem i64_in (x a b : Int32) : m_X9_in x.toInt64 a.toInt64 b.toInt64 = some (if a ≤ x ∧ x ≤ b then 1 else 0) := by
  have h1 : (x.toInt64 < a.toInt64) ↔ x < a := by rw [Int64.lt_iff_toInt_lt, Int32.lt_iff_toInt_lt, Int32.toInt_toInt64, Int32.toInt_toInt64]
  have h2 : (b.toInt64 < x.toInt64) ↔ b < x := by rw [Int64.lt_iff_toInt_lt, Int32.lt_iff_toInt_lt, Int32.toInt_toInt64, Int32.toInt_toInt64]
  unfold m_X9_in
  simp only [lg_cmp_lt, lg_cmp_gt, h1, h2]
  by_cases c1 : x < a
  · rw [if_pos c1, if_neg (fun h => by rw [Int32.le_iff_toInt_le] at h; rw [Int32.lt_iff_toInt_lt] at c1; omega)]
  · rw [if_neg c1]
    by_cases c2 : b < x
    · rw [if_pos c2, if_neg (fun h => by rw [Int32.le_iff_toInt_le, Int32.le_iff_toInt_le] at h; rw [Int32.lt_iff_toInt_lt] at c2; omega)]
    · rw [if_neg c2, if_pos ⟨by rw [Int32.le_iff_toInt_le]; rw [Int32.lt_iff_toInt_lt] at c1; omega, by rw [Int32.le_iff_toInt_le]; rw [Int32.lt_iff_toInt_lt] at c2; omega⟩]
theorem zb01 (c : Prop) [Decidable c] : zb (if c then 1 else 0) = some () := by
  unfold zb
  split <;> simp
/-- an int between two numbers is one of them -/
theorem ni_of {x : Int32} {n : Nat} (hn : n < 2 ^ 31) (h0 : 0 ≤ x) (h1 : x ≤ nI n) : ∃ k, k ≤ n ∧ x = nI k := by
  rw [Int32.le_iff_toInt_le] at h0 h1
  rw [nI_toInt hn] at h1
  refine ⟨x.toInt.toNat, ?_, ?_⟩
  · have : (0 : Int32).toInt = 0 := rfl
    omega
  · apply Int32.toInt_inj.mp
    have : (0 : Int32).toInt = 0 := rfl
    rw [nI_toInt (by omega)]
    omega
theorem clampN {n : Nat} (h : n < 2 ^ 31) : (nI n).toNatClampNeg = n := nI_clamp h
theorem in_k {n k : Nat} (h : k < n) (hn : n < 2 ^ 31) : ¬ (nI k < 0 ∨ n ≤ (nI k).toNatClampNeg) := vp_in_nI h hn
