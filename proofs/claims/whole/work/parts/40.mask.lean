/-! asks -/
/-- what an ask leaves, by kind: size, mark -/
def askT (kind w : Nat) : List Nat :=
  if w = 0 then (if kind = 1 then [11, 10, 21, 20] else if kind = 2 then [12, 11, 10, 24, 21, 20] else if kind = 3 then [11, 10, 22, 21, 20] else if kind = 4 then [13, 10] else [14, 13, 10])
  else (if kind = 1 then [21, 20] else if kind = 2 then [24, 21, 20] else if kind = 3 then [22, 21, 20] else if kind = 4 then [23, 20, 13, 10] else [23, 20, 14, 13, 10])
/-- what it gives: d the number, p the peg, c how many lie there -/
def askV (kind w : Nat) (d p c : Int32) : Int32 :=
  if w = 0 then (if kind = 1 then d + (p + c) else if kind = 2 then -(d + 2 * (p + c)) else if kind = 3 then d + ((p + c) - 1000) else if kind = 4 then d - 100 else 2 * (d - 100))
  else (if kind = 1 then p + c else if kind = 2 then 2 * (p + c) else if kind = 3 then (p + c) - 1000 else if kind = 4 then p - (d - 100) else p - 2 * (d - 100))
def AS.trc (s : AS) (n : Nat) (t : Nat → Int32) : AS := (s.1, s.2.1, s.2.2.1, s.found, s.tl, s.tb, s.flt, s.bd, s.na, s.ac, s.im, n, t)
def o_ask (s : AS) (d w : Int32) : Int32 × AS :=
  if isD s d then (if 0 ≤ w ∧ w ≤ 1 then (askV (s.bd.kd (nt d)) (nt w) d (nI (s.bd.pg (nt d))) (nI (bc (lset (stx s.bd) (s.bd.pg (nt d)) s.bd.D))), s.trc (askT (s.bd.kd (nt d)) (nt w)).length (fun j => nI ((askT (s.bd.kd (nt d)) (nt w)).getD j 0))) else (-1000001, s)) else (-1000001, s)
theorem upd_upd {f : Nat → Int32} {k : Nat} {x y : Int32} : upd (upd f k x) k y = upd f k y := by
  funext i
  by_cases h : i = k
  · subst h; rw [upd_s, upd_s]
  · rw [upd_n h, upd_n h, upd_n h]
section MK
variable {N m : Nat} {f : Nat → Int32} {a : Nat → Nat → Int32} {b : Nat → Nat → Int64} {s : AS} {σ : Hp}
/-- the heap while the trace grows: t numbers, g -/
def AH (σ : Hp) (f : Nat → Int32) (a : Nat → Nat → Int32) (b : Nat → Nat → Int64) (t : Nat) (g : Nat → Int32) : Hp := MH σ (upd f 23 (nI t)) (va_up a 65 g) b
theorem leaves_ok (hN : 66 ≤ N) {t : Nat} (ht : t < 16) (g : Nat → Int32) (v : Int32) : m_X9_leaves N (AH σ f a b t g) 53 v = some (AH σ f a b (t + 1) (upd g t v)) := by
  unfold m_X9_leaves AH
  simp only [MH_rv hN, MH_f3 hN, MH_f4 hN, MH_f6 hN, MH_f7 hN, MH_f8 hN, MH_f9 hN, MH_f11 hN, MH_f16 hN, MH_f19 hN, MH_f20 hN, MH_f21 hN, MH_f23 hN, MH_r0 hN, MH_r1 hN, MH_r2 hN, MH_r5 hN, MH_r10 hN, MH_r12 hN, MH_r13 hN, MH_r14 hN, MH_r15 hN, MH_r17 hN, MH_r18 hN, MH_r22 hN, Option.bind_some]
  rw [upd_s, if_neg (show ¬ (16 : Int32) ≤ nI t by rw [show (16 : Int32) = nI 16 from rfl, nI_leI (by omega) (by omega)]; omega), MH_s65 hN ht]
  simp only [MH_rv hN, MH_f3 hN, MH_f4 hN, MH_f6 hN, MH_f7 hN, MH_f8 hN, MH_f9 hN, MH_f11 hN, MH_f16 hN, MH_f19 hN, MH_f20 hN, MH_f21 hN, MH_f23 hN, MH_r0 hN, MH_r1 hN, MH_r2 hN, MH_r5 hN, MH_r10 hN, MH_r12 hN, MH_r13 hN, MH_r14 hN, MH_r15 hN, MH_r17 hN, MH_r18 hN, MH_r22 hN, Option.bind_some]
  rw [upd_s, nI_1, MH_put (j := 23) hN (by omega), upd_upd, vup_vup, vup_s]
  rfl
theorem AH_rv (hN : 66 ≤ N) {t : Nat} {g : Nat → Int32} : rv N (AH σ f a b t g) 53 9 = some () := MH_rv hN
theorem AH_w (hN : 66 ≤ N) {t k : Nat} {g : Nat → Int32} (hk : k < 448) : aI 0 N (AH σ f a b t g) 58 (nI k) = some (a 58 k) := by
  unfold AH; rw [MH_a58 hN hk, vup_n (by decide)]
theorem AH_r (hN : 66 ≤ N) {t : Nat} {g : Nat → Int32} : gR N (AH σ f a b t g) 53 9 10 = some 58 := MH_r10 hN
/-- what a disc is: number, kind, peg, how many beside it -/
def Dsc (a : Nat → Nat → Int32) (bd : AB) (d : Nat) : Prop := ABm (a 58) 0 bd ∧ d < bd.D
variable {bd : AB} {d : Nat}
theorem Dsc.pg (h : Dsc a bd d) (hV : VB m bd) : a 58 (10 + d) = nI (bd.pg d) := by
  obtain ⟨_, h6, _⟩ := hV.d4
  have := (h.1.2.2.2.2 d (by have := h.2; omega)).2
  rw [show 16 * 0 + 10 + d = 10 + d by omega] at this
  exact this
theorem Dsc.kd (h : Dsc a bd d) (hV : VB m bd) : a 58 (4 + d) = nI (bd.kd d) := by
  obtain ⟨_, h6, _⟩ := hV.d4
  have := (h.1.2.2.2.2 d (by have := h.2; omega)).1
  rw [show 16 * 0 + 4 + d = 4 + d by omega] at this
  exact this
theorem many_ok (hN : 66 ≤ N) (h : Dsc a bd d) (hV : VB m bd) (hm : m < 2 ^ 30) {t p : Nat} {g : Nat → Int32} (hp : p < 16) : m_X9_many N (AH σ f a b t g) 53 (nI p) = some (nI (bc (lset (stx bd) p bd.D))) := by
  obtain ⟨_, h6, _⟩ := hV.d4
  have hB : ABm ((va_up a 65 g) 58) 0 bd := by rw [vup_n (by decide)]; exact h.1
  unfold m_X9_many AH
  simp only [MH_rv hN, MH_f3 hN, MH_f4 hN, MH_f6 hN, MH_f7 hN, MH_f8 hN, MH_f9 hN, MH_f11 hN, MH_f16 hN, MH_f19 hN, MH_f20 hN, MH_f21 hN, MH_f23 hN, MH_r0 hN, MH_r1 hN, MH_r2 hN, MH_r5 hN, MH_r10 hN, MH_r12 hN, MH_r13 hN, MH_r14 hN, MH_r15 hN, MH_r17 hN, MH_r18 hN, MH_r22 hN, Option.bind_some]
  rw [state_ok hN hB hV hm]
  simp only [Option.bind_some]
  rw [lying_ok hN hB.2.2.1 h6 (stx_lt hV) hp]
  simp only [Option.bind_some]
  rw [bits_all _ (lset_64 h6)]
  rfl
theorem body20_ok (hN : 66 ≤ N) (h : Dsc a bd d) (hV : VB m bd) {t : Nat} {g : Nat → Int32} (ht : t < 16) : m_X9_body20 N (AH σ f a b t g) 53 (nI d) = some (nI (bd.pg d), AH σ f a b (t + 1) (upd g t 20)) := by
  obtain ⟨_, h6, _⟩ := hV.d4
  have := h.2
  unfold m_X9_body20
  rw [AH_rv hN, leaves_ok hN ht]
  simp only [Option.bind_some]
  rw [AH_r hN]
  simp only [Option.bind_some]
  rw [show (10 : Int32) = nI 10 from rfl, nI_add, AH_w hN (by omega), h.pg hV]
  rfl
theorem body21_ok (hN : 66 ≤ N) (h : Dsc a bd d) (hV : VB m bd) (hm : m < 2 ^ 30) {t : Nat} {g : Nat → Int32} (ht : t + 1 < 16) : m_X9_body21 N (AH σ f a b t g) 53 (nI d) = some (nI (bd.pg d) + nI (bc (lset (stx bd) (bd.pg d) bd.D)), AH σ f a b (t + 2) (upd (upd g t 21) (t + 1) 20)) := by
  obtain ⟨h4, h6, _⟩ := hV.d4
  have := h.2
  unfold m_X9_body21
  rw [AH_rv hN, leaves_ok hN (by omega)]
  simp only [Option.bind_some]
  rw [body20_ok hN h hV ht]
  simp only [Option.bind_some]
  rw [AH_r hN]
  simp only [Option.bind_some]
  rw [show (10 : Int32) = nI 10 from rfl, nI_add, AH_w hN (by omega), h.pg hV]
  simp only [Option.bind_some]
  rw [many_ok hN h hV hm (by have := h4 d; omega)]
  rfl
theorem body22_ok (hN : 66 ≤ N) (h : Dsc a bd d) (hV : VB m bd) (hm : m < 2 ^ 30) {t : Nat} {g : Nat → Int32} (ht : t + 2 < 16) : m_X9_body22 N (AH σ f a b t g) 53 (nI d) = some ((nI (bd.pg d) + nI (bc (lset (stx bd) (bd.pg d) bd.D))) - 1000, AH σ f a b (t + 3) (upd (upd (upd g t 22) (t + 1) 21) (t + 2) 20)) := by
  unfold m_X9_body22
  rw [AH_rv hN, leaves_ok hN (by omega)]
  simp only [Option.bind_some]
  rw [body21_ok hN h hV hm (by omega)]
  rfl
theorem body24_ok (hN : 66 ≤ N) (h : Dsc a bd d) (hV : VB m bd) (hm : m < 2 ^ 30) {t : Nat} {g : Nat → Int32} (ht : t + 2 < 16) : m_X9_body24 N (AH σ f a b t g) 53 (nI d) = some ((2 : Int32) * (nI (bd.pg d) + nI (bc (lset (stx bd) (bd.pg d) bd.D))), AH σ f a b (t + 3) (upd (upd (upd g t 24) (t + 1) 21) (t + 2) 20)) := by
  unfold m_X9_body24
  rw [AH_rv hN, leaves_ok hN (by omega)]
  simp only [Option.bind_some]
  rw [body21_ok hN h hV hm (by omega)]
  rfl
theorem body10_ok (hN : 66 ≤ N) {t : Nat} {g : Nat → Int32} (ht : t < 16) : m_X9_body10 N (AH σ f a b t g) 53 (nI d) = some (nI d, AH σ f a b (t + 1) (upd g t 10)) := by
  unfold m_X9_body10
  rw [AH_rv hN, leaves_ok hN ht]
  rfl
theorem body13_ok (hN : 66 ≤ N) {t : Nat} {g : Nat → Int32} (ht : t + 1 < 16) : m_X9_body13 N (AH σ f a b t g) 53 (nI d) = some (nI d - 100, AH σ f a b (t + 2) (upd (upd g t 13) (t + 1) 10)) := by
  unfold m_X9_body13
  rw [AH_rv hN, leaves_ok hN (by omega)]
  simp only [Option.bind_some]
  rw [body10_ok hN ht]
  rfl
theorem body14_ok (hN : 66 ≤ N) {t : Nat} {g : Nat → Int32} (ht : t + 2 < 16) : m_X9_body14 N (AH σ f a b t g) 53 (nI d) = some ((2 : Int32) * (nI d - 100), AH σ f a b (t + 3) (upd (upd (upd g t 14) (t + 1) 13) (t + 2) 10)) := by
  unfold m_X9_body14
  rw [AH_rv hN, leaves_ok hN (by omega)]
  simp only [Option.bind_some]
  rw [body13_ok hN (by omega)]
  rfl
theorem kread (hN : 66 ≤ N) (h : Dsc a bd d) (hV : VB m bd) {t : Nat} {g : Nat → Int32} : aI 0 N (AH σ f a b t g) 58 ((4 : Int32) + nI d) = some (nI (bd.kd d)) := by
  obtain ⟨_, h6, _⟩ := hV.d4
  have := h.2
  rw [show (4 : Int32) = nI 4 from rfl, nI_add, AH_w hN (by omega), h.kd hV]
theorem trc_RM (h : RM f a s) {n : Nat} {g : Nat → Int32} {L : List Nat} (hn : n = L.length) (hg : ∀ j, j < L.length → g j = nI (L.getD j 0)) : RM (upd f 23 (nI n)) (va_up a 65 g) (s.trc L.length (fun j => nI (L.getD j 0))) := by
  obtain ⟨h1, h2, h3, h4, h5, h6, h7, h8⟩ := h
  have ha : ∀ i, i ≠ 65 → va_up a 65 g i = a i := fun i hi => vup_n hi
  refine ⟨?_, by rw [upd_n (by decide)]; exact h2, ⟨by rw [upd_n (by decide)]; exact h3.1, by rw [ha 57 (by omega)]; exact h3.2⟩, by rw [upd_n (by decide)]; exact h4, by rw [ha 58 (by omega)]; exact h5, ⟨by rw [upd_n (by decide)]; exact h6.1, by rw [ha 58 (by omega)]; exact h6.2⟩, by rw [ha 58 (by omega), ha 59 (by omega)]; exact h7, ⟨by rw [upd_s, hn]; rfl, fun j hj => by rw [vup_s]; exact hg j hj⟩⟩
  rw [ha 54 (by omega), ha 55 (by omega), ha 56 (by omega)]; exact h1
end MK
