/-! reads and writes where the cell is known -/
theorem gV_of {N : Nat} {σ : Hp} {i ci j : Nat} {fs : List Value} {v : Value} (hi : i < N) (h : σ i = .inr (ci, fs)) (hj : fs[j]? = some v) : gV N σ i ci j = some v := by
  unfold gV; rw [if_pos hi, h]; simp [hj]
theorem gI_of {N : Nat} {σ : Hp} {i ci j : Nat} {fs : List Value} {x : Int32} (hi : i < N) (h : σ i = .inr (ci, fs)) (hj : fs[j]? = some (.int x)) : gI N σ i ci j = some x := by
  unfold gI; rw [gV_of hi h hj]; rfl
theorem gR_of {N : Nat} {σ : Hp} {i ci j x : Nat} {fs : List Value} (hi : i < N) (h : σ i = .inr (ci, fs)) (hj : fs[j]? = some (.ref x)) : gR N σ i ci j = some x := by
  unfold gR; rw [gV_of hi h hj]; rfl
theorem gQ_of {N : Nat} {σ : Hp} {i ci j : Nat} {x : Option Nat} {fs : List Value} (hi : i < N) (h : σ i = .inr (ci, fs)) (hj : fs[j]? = some (va_rf x)) : gQ N σ i ci j = some x := by
  unfold gQ; rw [gV_of hi h hj]; cases x <;> rfl
theorem pV_of {N : Nat} {σ : Hp} {i ci j : Nat} {fs : List Value} {v : Value} (hi : i < N) (h : σ i = .inr (ci, fs)) (hj : j < fs.length) : pV N σ i ci j v = some (va_up σ i (.inr (ci, fs.set j v))) := by
  unfold pV; rw [if_pos hi, h]; simp [hj]
theorem rv_of {N : Nat} {σ : Hp} {i ci : Nat} {fs : List Value} (hi : i < N) (h : σ i = .inr (ci, fs)) : rv N σ i ci = some () := by
  unfold rv; rw [if_pos hi, h]; simp
theorem aI_of {t N : Nat} {σ : Hp} {i n k : Nat} {f : Nat → Int32} (hi : i < N) (h : σ i = .inl (t, n, .inl f)) (hk : k < n) (hn : n < 2 ^ 31) : aI t N σ i (nI k) = some (f k) := by
  unfold aI; rw [if_pos hi, h]
  simp only [true_and]
  rw [if_pos (in_k hk hn), clampN (by omega)]
theorem aJ_of {N : Nat} {σ : Hp} {i n k : Nat} {f : Nat → Int64} (hi : i < N) (h : σ i = .inl (1, n, .inr (.inl f))) (hk : k < n) (hn : n < 2 ^ 31) : aJ N σ i (nI k) = some (f k) := by
  unfold aJ; rw [if_pos hi, h]
  simp only [true_and]
  rw [if_pos (in_k hk hn), clampN (by omega)]
theorem aR_of {t N : Nat} {σ : Hp} {i n k r : Nat} {f : Nat → Option Nat} (hi : i < N) (h : σ i = .inl (t, n, .inr (.inr (.inr (.inr f))))) (hk : k < n) (hn : n < 2 ^ 31) (hr : f k = some r) : aR t N σ i (nI k) = some r := by
  unfold aR; rw [if_pos hi, h]
  simp only [true_and]
  rw [if_pos (in_k hk hn), clampN (by omega), hr]
theorem sI_of {t N : Nat} {σ : Hp} {i n k : Nat} {f : Nat → Int32} {v : Int32} (hi : i < N) (h : σ i = .inl (t, n, .inl f)) (hk : k < n) (hn : n < 2 ^ 31) : sI t N σ i (nI k) v = some (va_up σ i (.inl (t, n, .inl (upd f k (nar t v))))) := by
  unfold sI; rw [if_pos hi, h]
  simp only [true_and]
  rw [if_pos (in_k hk hn), clampN (by omega)]
theorem sJ_of {N : Nat} {σ : Hp} {i n k : Nat} {f : Nat → Int64} {v : Int64} (hi : i < N) (h : σ i = .inl (1, n, .inr (.inl f))) (hk : k < n) (hn : n < 2 ^ 31) : sJ N σ i (nI k) v = some (va_up σ i (.inl (1, n, .inr (.inl (vp_updL f k v))))) := by
  unfold sJ; rw [if_pos hi, h]
  simp only [true_and]
  rw [if_pos (in_k hk hn), clampN (by omega)]
theorem aN_of {N : Nat} {σ : Hp} {i t n : Nat} {x : (Nat → Int32) ⊕ (Nat → Int64) ⊕ (Nat → UInt32) ⊕ (Nat → UInt64) ⊕ (Nat → Option Nat)} (hi : i < N) (h : σ i = .inl (t, n, x)) (ht : t < 6) : aN N σ i = some n := by
  unfold aN; rw [if_pos hi, h]; simp [ht]
/-! the reference's cells: 53 the object, 54 .. 65 its rows -/
def mObj (f : Nat → Int32) : List Value := [.ref 54, .ref 55, .ref 56, .int (f 3), .int (f 4), .ref 57, .int (f 6), .int (f 7), .int (f 8), .int (f 9), .ref 58, .int (f 11), .ref 59, .ref 60, .ref 61, .ref 62, .int (f 16), .ref 63, .ref 64, .int (f 19), .int (f 20), .int (f 21), .ref 65, .int (f 23)]
def mCel (a : Nat → Nat → Int32) (b : Nat → Nat → Int64) (i : Nat) : va_E := if i = 54 then .inl (0, 320, .inl (a 54)) else if i = 55 then .inl (0, 8, .inl (a 55)) else if i = 56 then .inl (0, 8, .inl (a 56)) else if i = 57 then .inl (2, 60, .inl (a 57)) else if i = 58 then .inl (0, 448, .inl (a 58)) else if i = 59 then .inl (3, 2, .inl (a 59)) else if i = 60 then .inl (0, 8192, .inl (a 60)) else if i = 61 then .inl (0, 8192, .inl (a 61)) else if i = 62 then .inl (3, 8192, .inl (a 62)) else if i = 63 then .inl (1, 8192, .inr (.inl (b 63))) else if i = 64 then .inl (1, 8192, .inr (.inl (b 64))) else .inl (0, 16, .inl (a 65))
def MH (σ : Hp) (f : Nat → Int32) (a : Nat → Nat → Int32) (b : Nat → Nat → Int64) : Hp := fun i => if i = 53 then .inr (9, mObj f) else if 54 ≤ i ∧ i < 66 then mCel a b i else σ i
section MHs
variable {N : Nat} {σ : Hp} {f : Nat → Int32} {a : Nat → Nat → Int32} {b : Nat → Nat → Int64}
theorem MH_53 : MH σ f a b 53 = .inr (9, mObj f) := rfl
theorem MH_out {i : Nat} (h : i < 53 ∨ 66 ≤ i) : MH σ f a b i = σ i := by
  unfold MH; rw [if_neg (by omega), if_neg (by omega)]
theorem MH_rv (hN : 66 ≤ N) : rv N (MH σ f a b) 53 9 = some () := rv_of (fs := mObj f) (by omega) rfl
theorem MH_put {j : Nat} {v : Int32} (hN : 66 ≤ N) (hj : j = 3 ∨ j = 4 ∨ j = 6 ∨ j = 7 ∨ j = 8 ∨ j = 9 ∨ j = 11 ∨ j = 16 ∨ j = 19 ∨ j = 20 ∨ j = 21 ∨ j = 23) : pV N (MH σ f a b) 53 9 j (.int v) = some (MH σ (upd f j v) a b) := by
  rw [pV_of (fs := mObj f) (by omega) rfl (by show j < 24; omega)]
  congr 1
  funext i
  unfold va_up
  split
  case isTrue h =>
    subst h
    rw [MH_53]
    rcases hj with rfl | rfl | rfl | rfl | rfl | rfl | rfl | rfl | rfl | rfl | rfl | rfl <;> rfl
  case isFalse h => unfold MH; rw [if_neg h, if_neg h]
theorem MH_upI {i n t k : Nat} {v : Int32} (hi : 54 ≤ i ∧ i < 66) (hc : ∀ a' : Nat → Nat → Int32, mCel a' b i = .inl (t, n, .inl (a' i))) : va_up (MH σ f a b) i (.inl (t, n, .inl (upd (a i) k v))) = MH σ f (va_up a i (upd (a i) k v)) b := by
  funext j
  unfold va_up
  split
  case isTrue h =>
    subst h
    unfold MH
    rw [if_neg (by omega), if_pos hi, hc, if_pos rfl]
  case isFalse h =>
    unfold MH
    split
    · rfl
    · split
      case isTrue hj =>
        unfold mCel
        rcases (show j = 54 ∨ j = 55 ∨ j = 56 ∨ j = 57 ∨ j = 58 ∨ j = 59 ∨ j = 60 ∨ j = 61 ∨ j = 62 ∨ j = 63 ∨ j = 64 ∨ j = 65 by omega) with rfl | rfl | rfl | rfl | rfl | rfl | rfl | rfl | rfl | rfl | rfl | rfl <;> simp [h]
      · rfl
theorem MH_upJ {i k : Nat} {v : Int64} (hi : i = 63 ∨ i = 64) : va_up (MH σ f a b) i (.inl (1, 8192, .inr (.inl (vp_updL (b i) k v)))) = MH σ f a (va_up b i (vp_updL (b i) k v)) := by
  funext j
  unfold va_up
  split
  case isTrue h =>
    subst h
    unfold MH
    rw [if_neg (by omega), if_pos (by omega)]
    rcases hi with rfl | rfl <;> simp [mCel]
  case isFalse h =>
    unfold MH
    split
    · rfl
    · split
      case isTrue hj =>
        unfold mCel
        rcases (show j = 54 ∨ j = 55 ∨ j = 56 ∨ j = 57 ∨ j = 58 ∨ j = 59 ∨ j = 60 ∨ j = 61 ∨ j = 62 ∨ j = 63 ∨ j = 64 ∨ j = 65 by omega) with rfl | rfl | rfl | rfl | rfl | rfl | rfl | rfl | rfl | rfl | rfl | rfl <;> simp [h]
      · rfl
theorem MH_f3 (hN : 66 ≤ N) : gI N (MH σ f a b) 53 9 3 = some (f 3) := gI_of (by omega) MH_53 rfl
theorem MH_f4 (hN : 66 ≤ N) : gI N (MH σ f a b) 53 9 4 = some (f 4) := gI_of (by omega) MH_53 rfl
theorem MH_f6 (hN : 66 ≤ N) : gI N (MH σ f a b) 53 9 6 = some (f 6) := gI_of (by omega) MH_53 rfl
theorem MH_f7 (hN : 66 ≤ N) : gI N (MH σ f a b) 53 9 7 = some (f 7) := gI_of (by omega) MH_53 rfl
theorem MH_f8 (hN : 66 ≤ N) : gI N (MH σ f a b) 53 9 8 = some (f 8) := gI_of (by omega) MH_53 rfl
theorem MH_f9 (hN : 66 ≤ N) : gI N (MH σ f a b) 53 9 9 = some (f 9) := gI_of (by omega) MH_53 rfl
theorem MH_f11 (hN : 66 ≤ N) : gI N (MH σ f a b) 53 9 11 = some (f 11) := gI_of (by omega) MH_53 rfl
theorem MH_f16 (hN : 66 ≤ N) : gI N (MH σ f a b) 53 9 16 = some (f 16) := gI_of (by omega) MH_53 rfl
theorem MH_f19 (hN : 66 ≤ N) : gI N (MH σ f a b) 53 9 19 = some (f 19) := gI_of (by omega) MH_53 rfl
theorem MH_f20 (hN : 66 ≤ N) : gI N (MH σ f a b) 53 9 20 = some (f 20) := gI_of (by omega) MH_53 rfl
theorem MH_f21 (hN : 66 ≤ N) : gI N (MH σ f a b) 53 9 21 = some (f 21) := gI_of (by omega) MH_53 rfl
theorem MH_f23 (hN : 66 ≤ N) : gI N (MH σ f a b) 53 9 23 = some (f 23) := gI_of (by omega) MH_53 rfl
theorem MH_r0 (hN : 66 ≤ N) : gR N (MH σ f a b) 53 9 0 = some 54 := gR_of (by omega) MH_53 rfl
theorem MH_r1 (hN : 66 ≤ N) : gR N (MH σ f a b) 53 9 1 = some 55 := gR_of (by omega) MH_53 rfl
theorem MH_r2 (hN : 66 ≤ N) : gR N (MH σ f a b) 53 9 2 = some 56 := gR_of (by omega) MH_53 rfl
theorem MH_r5 (hN : 66 ≤ N) : gR N (MH σ f a b) 53 9 5 = some 57 := gR_of (by omega) MH_53 rfl
theorem MH_r10 (hN : 66 ≤ N) : gR N (MH σ f a b) 53 9 10 = some 58 := gR_of (by omega) MH_53 rfl
theorem MH_r12 (hN : 66 ≤ N) : gR N (MH σ f a b) 53 9 12 = some 59 := gR_of (by omega) MH_53 rfl
theorem MH_r13 (hN : 66 ≤ N) : gR N (MH σ f a b) 53 9 13 = some 60 := gR_of (by omega) MH_53 rfl
theorem MH_r14 (hN : 66 ≤ N) : gR N (MH σ f a b) 53 9 14 = some 61 := gR_of (by omega) MH_53 rfl
theorem MH_r15 (hN : 66 ≤ N) : gR N (MH σ f a b) 53 9 15 = some 62 := gR_of (by omega) MH_53 rfl
theorem MH_r17 (hN : 66 ≤ N) : gR N (MH σ f a b) 53 9 17 = some 63 := gR_of (by omega) MH_53 rfl
theorem MH_r18 (hN : 66 ≤ N) : gR N (MH σ f a b) 53 9 18 = some 64 := gR_of (by omega) MH_53 rfl
theorem MH_r22 (hN : 66 ≤ N) : gR N (MH σ f a b) 53 9 22 = some 65 := gR_of (by omega) MH_53 rfl
theorem MH_a54 {k : Nat} (hN : 66 ≤ N) (hk : k < 320) : aI 0 N (MH σ f a b) 54 (nI k) = some (a 54 k) := aI_of (n := 320) (by omega) rfl hk (by omega)
theorem MH_a55 {k : Nat} (hN : 66 ≤ N) (hk : k < 8) : aI 0 N (MH σ f a b) 55 (nI k) = some (a 55 k) := aI_of (n := 8) (by omega) rfl hk (by omega)
theorem MH_a56 {k : Nat} (hN : 66 ≤ N) (hk : k < 8) : aI 0 N (MH σ f a b) 56 (nI k) = some (a 56 k) := aI_of (n := 8) (by omega) rfl hk (by omega)
theorem MH_a57 {k : Nat} (hN : 66 ≤ N) (hk : k < 60) : aI 2 N (MH σ f a b) 57 (nI k) = some (a 57 k) := aI_of (n := 60) (by omega) rfl hk (by omega)
theorem MH_a58 {k : Nat} (hN : 66 ≤ N) (hk : k < 448) : aI 0 N (MH σ f a b) 58 (nI k) = some (a 58 k) := aI_of (n := 448) (by omega) rfl hk (by omega)
theorem MH_a59 {k : Nat} (hN : 66 ≤ N) (hk : k < 2) : aI 3 N (MH σ f a b) 59 (nI k) = some (a 59 k) := aI_of (n := 2) (by omega) rfl hk (by omega)
theorem MH_a60 {k : Nat} (hN : 66 ≤ N) (hk : k < 8192) : aI 0 N (MH σ f a b) 60 (nI k) = some (a 60 k) := aI_of (n := 8192) (by omega) rfl hk (by omega)
theorem MH_a61 {k : Nat} (hN : 66 ≤ N) (hk : k < 8192) : aI 0 N (MH σ f a b) 61 (nI k) = some (a 61 k) := aI_of (n := 8192) (by omega) rfl hk (by omega)
theorem MH_a62 {k : Nat} (hN : 66 ≤ N) (hk : k < 8192) : aI 3 N (MH σ f a b) 62 (nI k) = some (a 62 k) := aI_of (n := 8192) (by omega) rfl hk (by omega)
theorem MH_a63 {k : Nat} (hN : 66 ≤ N) (hk : k < 8192) : aJ N (MH σ f a b) 63 (nI k) = some (b 63 k) := aJ_of (n := 8192) (by omega) rfl hk (by omega)
theorem MH_a64 {k : Nat} (hN : 66 ≤ N) (hk : k < 8192) : aJ N (MH σ f a b) 64 (nI k) = some (b 64 k) := aJ_of (n := 8192) (by omega) rfl hk (by omega)
theorem MH_a65 {k : Nat} (hN : 66 ≤ N) (hk : k < 16) : aI 0 N (MH σ f a b) 65 (nI k) = some (a 65 k) := aI_of (n := 16) (by omega) rfl hk (by omega)
theorem MH_s54 {k : Nat} {v : Int32} (hN : 66 ≤ N) (hk : k < 320) : sI 0 N (MH σ f a b) 54 (nI k) v = some (MH σ f (va_up a 54 (upd (a 54) k v)) b) := by rw [sI_of (n := 320) (f := a 54) (by omega) rfl hk (by omega)]; congr 1; exact MH_upI (by omega) (fun _ => rfl)
theorem MH_s55 {k : Nat} {v : Int32} (hN : 66 ≤ N) (hk : k < 8) : sI 0 N (MH σ f a b) 55 (nI k) v = some (MH σ f (va_up a 55 (upd (a 55) k v)) b) := by rw [sI_of (n := 8) (f := a 55) (by omega) rfl hk (by omega)]; congr 1; exact MH_upI (by omega) (fun _ => rfl)
theorem MH_s56 {k : Nat} {v : Int32} (hN : 66 ≤ N) (hk : k < 8) : sI 0 N (MH σ f a b) 56 (nI k) v = some (MH σ f (va_up a 56 (upd (a 56) k v)) b) := by rw [sI_of (n := 8) (f := a 56) (by omega) rfl hk (by omega)]; congr 1; exact MH_upI (by omega) (fun _ => rfl)
theorem MH_s57 {k : Nat} {v : Int32} (hN : 66 ≤ N) (hk : k < 60) : sI 2 N (MH σ f a b) 57 (nI k) v = some (MH σ f (va_up a 57 (upd (a 57) k (nar 2 v))) b) := by rw [sI_of (n := 60) (f := a 57) (by omega) rfl hk (by omega)]; congr 1; exact MH_upI (by omega) (fun _ => rfl)
theorem MH_s58 {k : Nat} {v : Int32} (hN : 66 ≤ N) (hk : k < 448) : sI 0 N (MH σ f a b) 58 (nI k) v = some (MH σ f (va_up a 58 (upd (a 58) k v)) b) := by rw [sI_of (n := 448) (f := a 58) (by omega) rfl hk (by omega)]; congr 1; exact MH_upI (by omega) (fun _ => rfl)
theorem MH_s59 {k : Nat} {v : Int32} (hN : 66 ≤ N) (hk : k < 2) : sI 3 N (MH σ f a b) 59 (nI k) v = some (MH σ f (va_up a 59 (upd (a 59) k (nar 3 v))) b) := by rw [sI_of (n := 2) (f := a 59) (by omega) rfl hk (by omega)]; congr 1; exact MH_upI (by omega) (fun _ => rfl)
theorem MH_s60 {k : Nat} {v : Int32} (hN : 66 ≤ N) (hk : k < 8192) : sI 0 N (MH σ f a b) 60 (nI k) v = some (MH σ f (va_up a 60 (upd (a 60) k v)) b) := by rw [sI_of (n := 8192) (f := a 60) (by omega) rfl hk (by omega)]; congr 1; exact MH_upI (by omega) (fun _ => rfl)
theorem MH_s61 {k : Nat} {v : Int32} (hN : 66 ≤ N) (hk : k < 8192) : sI 0 N (MH σ f a b) 61 (nI k) v = some (MH σ f (va_up a 61 (upd (a 61) k v)) b) := by rw [sI_of (n := 8192) (f := a 61) (by omega) rfl hk (by omega)]; congr 1; exact MH_upI (by omega) (fun _ => rfl)
theorem MH_s62 {k : Nat} {v : Int32} (hN : 66 ≤ N) (hk : k < 8192) : sI 3 N (MH σ f a b) 62 (nI k) v = some (MH σ f (va_up a 62 (upd (a 62) k (nar 3 v))) b) := by rw [sI_of (n := 8192) (f := a 62) (by omega) rfl hk (by omega)]; congr 1; exact MH_upI (by omega) (fun _ => rfl)
theorem MH_s63 {k : Nat} {v : Int64} (hN : 66 ≤ N) (hk : k < 8192) : sJ N (MH σ f a b) 63 (nI k) v = some (MH σ f a (va_up b 63 (vp_updL (b 63) k v))) := by rw [sJ_of (n := 8192) (f := b 63) (by omega) rfl hk (by omega)]; congr 1; exact MH_upJ (Or.inl rfl)
theorem MH_s64 {k : Nat} {v : Int64} (hN : 66 ≤ N) (hk : k < 8192) : sJ N (MH σ f a b) 64 (nI k) v = some (MH σ f a (va_up b 64 (vp_updL (b 64) k v))) := by rw [sJ_of (n := 8192) (f := b 64) (by omega) rfl hk (by omega)]; congr 1; exact MH_upJ (Or.inr rfl)
theorem MH_s65 {k : Nat} {v : Int32} (hN : 66 ≤ N) (hk : k < 16) : sI 0 N (MH σ f a b) 65 (nI k) v = some (MH σ f (va_up a 65 (upd (a 65) k v)) b) := by rw [sI_of (n := 16) (f := a 65) (by omega) rfl hk (by omega)]; congr 1; exact MH_upI (by omega) (fun _ => rfl)
end MHs
