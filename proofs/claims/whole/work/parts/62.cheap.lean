/-! the class's cells: 0 the object, 1 .. 52 what it makes at first -/
/-- where net, search, layers lie; 0: not made -/
abbrev CR : Type := Nat × Nat × Nat
def rfc (p : Nat) : Value := va_rf (if p = 0 then none else some p)
def cCel (g : Nat → Int32) (R : CR) (i : Nat) : va_E :=
  if i = 0 then .inr (8, [.ref 1, .ref 2, .ref 4, .ref 5, .ref 6, .ref 32, .ref 33, rfc R.1, rfc R.2.1, rfc R.2.2, .int (g 10), .int (g 11)])
  else if i = 1 then .inl (5, 8, .inr (.inr (.inr (.inr (fun k => if k < 8 then some (35 + 2 * k) else none)))))
  else if i = 2 then .inr (7, [.ref 3, .int (g 1), .int (g 2), .int (g 3), .int (g 4)])
  else if i = 3 then .inl (0, 60, .inl g)
  else if i = 6 then .inr (0, [.ref 7, .int (g 1), .int (g 2)])
  else if i = 7 then .inl (4, 24, .inr (.inr (.inr (.inr (fun k => if k < 24 then some (8 + k) else none)))))
  else if i = 32 then .inl (4, 2, .inr (.inr (.inr (.inr (fun k => if k < 2 then some (51 + k) else none)))))
  else if i = 33 then .inr (1, [.ref 34, .int (g 1), .int (g 2), .int (g 3), .int (g 4), .int (g 5)])
  else if i = 34 then .inl (0, 16, .inl g)
  else if 35 ≤ i ∧ i < 51 then (if i % 2 = 1 then .inr (5, [.int (g 0), .int (g 1), .ref (i + 1)]) else .inl (0, 40, .inl g))
  else bC g
def CH (σ : Hp) (u : Nat → Nat → Int32) (R : CR) : Hp := fun i => if i < 53 then cCel (u i) R i else σ i
/-- the boards among them -/
def isB (c : Nat) : Prop := c = 4 ∨ c = 5 ∨ (8 ≤ c ∧ c < 32) ∨ c = 51 ∨ c = 52
section CHs
variable {N : Nat} {σ : Hp} {u : Nat → Nat → Int32} {R : CR}
theorem CH_lt {i : Nat} (h : i < 53) : CH σ u R i = cCel (u i) R i := if_pos h
theorem CH_ge {i : Nat} (h : 53 ≤ i) : CH σ u R i = σ i := if_neg (by omega)
theorem CH_up {i : Nat} (h : i < 53) (g : Nat → Int32) {e : va_E} (he : e = cCel g R i) : va_up (CH σ u R) i e = CH σ (va_up u i g) R := by
  subst he
  funext j
  by_cases c : j = i
  · subst c; rw [vup_s, CH_lt h, vup_s]
  · rw [vup_n c]
    by_cases h2 : j < 53
    · rw [CH_lt h2, CH_lt h2, vup_n c]
    · rw [CH_ge (by omega), CH_ge (by omega)]
theorem CH_b {c : Nat} (hN : 66 ≤ N) (hc : isB c) : BH N (CH σ u R) c (u c) := by
  unfold isB at hc
  refine ⟨by omega, ?_⟩
  rw [CH_lt (by omega)]
  unfold cCel
  rw [if_neg (by omega), if_neg (by omega), if_neg (by omega), if_neg (by omega), if_neg (by omega), if_neg (by omega), if_neg (by omega), if_neg (by omega), if_neg (by omega), if_neg (by omega)]
theorem CH_ub {c : Nat} (hc : isB c) (g : Nat → Int32) : va_up (CH σ u R) c (bC g) = CH σ (va_up u c g) R := by
  unfold isB at hc
  refine CH_up (by omega) g ?_
  unfold cCel
  rw [if_neg (by omega), if_neg (by omega), if_neg (by omega), if_neg (by omega), if_neg (by omega), if_neg (by omega), if_neg (by omega), if_neg (by omega), if_neg (by omega), if_neg (by omega)]
theorem C_rv (hN : 66 ≤ N) : rv N (CH σ u R) 0 8 = some () := rv_of (by omega) (CH_lt (by omega))
theorem C_r0 (hN : 66 ≤ N) : gR N (CH σ u R) 0 8 0 = some 1 := gR_of (by omega) (CH_lt (by omega)) rfl
theorem C_r1 (hN : 66 ≤ N) : gR N (CH σ u R) 0 8 1 = some 2 := gR_of (by omega) (CH_lt (by omega)) rfl
theorem C_r2 (hN : 66 ≤ N) : gR N (CH σ u R) 0 8 2 = some 4 := gR_of (by omega) (CH_lt (by omega)) rfl
theorem C_r3 (hN : 66 ≤ N) : gR N (CH σ u R) 0 8 3 = some 5 := gR_of (by omega) (CH_lt (by omega)) rfl
theorem C_r4 (hN : 66 ≤ N) : gR N (CH σ u R) 0 8 4 = some 6 := gR_of (by omega) (CH_lt (by omega)) rfl
theorem C_r5 (hN : 66 ≤ N) : gR N (CH σ u R) 0 8 5 = some 32 := gR_of (by omega) (CH_lt (by omega)) rfl
theorem C_r6 (hN : 66 ≤ N) : gR N (CH σ u R) 0 8 6 = some 33 := gR_of (by omega) (CH_lt (by omega)) rfl
theorem C_q7 (hN : 66 ≤ N) : gQ N (CH σ u R) 0 8 7 = some (if R.1 = 0 then none else some R.1) := gQ_of (by omega) (CH_lt (by omega)) rfl
theorem C_q8 (hN : 66 ≤ N) : gQ N (CH σ u R) 0 8 8 = some (if R.2.1 = 0 then none else some R.2.1) := gQ_of (by omega) (CH_lt (by omega)) rfl
theorem C_q9 (hN : 66 ≤ N) : gQ N (CH σ u R) 0 8 9 = some (if R.2.2 = 0 then none else some R.2.2) := gQ_of (by omega) (CH_lt (by omega)) rfl
theorem C_i10 (hN : 66 ≤ N) : gI N (CH σ u R) 0 8 10 = some (u 0 10) := gI_of (by omega) (CH_lt (by omega)) rfl
theorem C_i11 (hN : 66 ≤ N) : gI N (CH σ u R) 0 8 11 = some (u 0 11) := gI_of (by omega) (CH_lt (by omega)) rfl
theorem C_p10 (hN : 66 ≤ N) {v : Int32} : pV N (CH σ u R) 0 8 10 (.int v) = some (CH σ (va_up u 0 (upd (u 0) 10 v)) R) := by
  rw [pV_of (by omega) (CH_lt (by omega)) (by simp)]; exact ofN (CH_up (by omega) _ rfl)
theorem C_p11 (hN : 66 ≤ N) {v : Int32} : pV N (CH σ u R) 0 8 11 (.int v) = some (CH σ (va_up u 0 (upd (u 0) 11 v)) R) := by
  rw [pV_of (by omega) (CH_lt (by omega)) (by simp)]; exact ofN (CH_up (by omega) _ rfl)
theorem C_rows {k : Nat} (hN : 66 ≤ N) (hk : k < 8) : aR 5 N (CH σ u R) 1 (nI k) = some (35 + 2 * k) := aR_of (by omega) (CH_lt (by omega)) hk (by omega) (if_pos hk)
theorem C_acts {k : Nat} (hN : 66 ≤ N) (hk : k < 24) : aR 4 N (CH σ u R) 7 (nI k) = some (8 + k) := aR_of (by omega) (CH_lt (by omega)) hk (by omega) (if_pos hk)
theorem C_imgs {k : Nat} (hN : 66 ≤ N) (hk : k < 2) : aR 4 N (CH σ u R) 32 (nI k) = some (51 + k) := aR_of (by omega) (CH_lt (by omega)) hk (by omega) (if_pos hk)
-- the tape
theorem T_rv (hN : 66 ≤ N) : rv N (CH σ u R) 2 7 = some () := rv_of (by omega) (CH_lt (by omega))
theorem T_r0 (hN : 66 ≤ N) : gR N (CH σ u R) 2 7 0 = some 3 := gR_of (by omega) (CH_lt (by omega)) rfl
theorem T_i {j : Nat} (hN : 66 ≤ N) (hj : j = 1 ∨ j = 2 ∨ j = 3 ∨ j = 4) : gI N (CH σ u R) 2 7 j = some (u 2 j) := by
  rcases hj with rfl | rfl | rfl | rfl <;> exact gI_of (by omega) (CH_lt (by omega)) rfl
theorem T_p {j : Nat} (hN : 66 ≤ N) (hj : j = 1 ∨ j = 2 ∨ j = 3 ∨ j = 4) {v : Int32} : pV N (CH σ u R) 2 7 j (.int v) = some (CH σ (va_up u 2 (upd (u 2) j v)) R) := by
  rcases hj with rfl | rfl | rfl | rfl <;> (rw [pV_of (by omega) (CH_lt (by omega)) (by simp)]; exact ofN (CH_up (by omega) _ rfl))
theorem T_a {k : Nat} (hN : 66 ≤ N) (hk : k < 60) : aI 0 N (CH σ u R) 3 (nI k) = some (u 3 k) := aI_of (by omega) (CH_lt (by omega)) hk (by omega)
theorem T_s {k : Nat} {v : Int32} (hN : 66 ≤ N) (hk : k < 60) : sI 0 N (CH σ u R) 3 (nI k) v = some (CH σ (va_up u 3 (upd (u 3) k v)) R) := by
  rw [sI_of (by omega) (CH_lt (by omega)) hk (by omega)]; exact ofN (CH_up (by omega) _ rfl)
-- acts
theorem A_rv (hN : 66 ≤ N) : rv N (CH σ u R) 6 0 = some () := rv_of (by omega) (CH_lt (by omega))
theorem A_r0 (hN : 66 ≤ N) : gR N (CH σ u R) 6 0 0 = some 7 := gR_of (by omega) (CH_lt (by omega)) rfl
theorem A_i1 (hN : 66 ≤ N) : gI N (CH σ u R) 6 0 1 = some (u 6 1) := gI_of (by omega) (CH_lt (by omega)) rfl
theorem A_i2 (hN : 66 ≤ N) : gI N (CH σ u R) 6 0 2 = some (u 6 2) := gI_of (by omega) (CH_lt (by omega)) rfl
theorem A_p1 (hN : 66 ≤ N) {v : Int32} : pV N (CH σ u R) 6 0 1 (.int v) = some (CH σ (va_up u 6 (upd (u 6) 1 v)) R) := by
  rw [pV_of (by omega) (CH_lt (by omega)) (by simp)]; exact ofN (CH_up (by omega) _ rfl)
theorem A_p2 (hN : 66 ≤ N) {v : Int32} : pV N (CH σ u R) 6 0 2 (.int v) = some (CH σ (va_up u 6 (upd (u 6) 2 v)) R) := by
  rw [pV_of (by omega) (CH_lt (by omega)) (by simp)]; exact ofN (CH_up (by omega) _ rfl)
-- the asker
theorem K_rv (hN : 66 ≤ N) : rv N (CH σ u R) 33 1 = some () := rv_of (by omega) (CH_lt (by omega))
theorem K_r0 (hN : 66 ≤ N) : gR N (CH σ u R) 33 1 0 = some 34 := gR_of (by omega) (CH_lt (by omega)) rfl
theorem K_i {j : Nat} (hN : 66 ≤ N) (hj : j = 1 ∨ j = 2 ∨ j = 3 ∨ j = 4 ∨ j = 5) : gI N (CH σ u R) 33 1 j = some (u 33 j) := by
  rcases hj with rfl | rfl | rfl | rfl | rfl <;> exact gI_of (by omega) (CH_lt (by omega)) rfl
theorem K_p {j : Nat} (hN : 66 ≤ N) (hj : j = 1 ∨ j = 2 ∨ j = 3 ∨ j = 4 ∨ j = 5) {v : Int32} : pV N (CH σ u R) 33 1 j (.int v) = some (CH σ (va_up u 33 (upd (u 33) j v)) R) := by
  rcases hj with rfl | rfl | rfl | rfl | rfl <;> (rw [pV_of (by omega) (CH_lt (by omega)) (by simp)]; exact ofN (CH_up (by omega) _ rfl))
theorem K_a {k : Nat} (hN : 66 ≤ N) (hk : k < 16) : aI 0 N (CH σ u R) 34 (nI k) = some (u 34 k) := aI_of (by omega) (CH_lt (by omega)) hk (by omega)
theorem K_s {k : Nat} {v : Int32} (hN : 66 ≤ N) (hk : k < 16) : sI 0 N (CH σ u R) 34 (nI k) v = some (CH σ (va_up u 34 (upd (u 34) k v)) R) := by
  rw [sI_of (by omega) (CH_lt (by omega)) hk (by omega)]; exact ofN (CH_up (by omega) _ rfl)
-- rows
theorem cRow {g : Nat → Int32} {k : Nat} (hk : k < 8) : cCel g R (35 + 2 * k) = .inr (5, [.int (g 0), .int (g 1), .ref (36 + 2 * k)]) := by
  unfold cCel
  rw [if_neg (by omega), if_neg (by omega), if_neg (by omega), if_neg (by omega), if_neg (by omega), if_neg (by omega), if_neg (by omega), if_neg (by omega), if_neg (by omega), if_pos (by omega), if_pos (by omega), show 35 + 2 * k + 1 = 36 + 2 * k by omega]
theorem cItm {g : Nat → Int32} {k : Nat} (hk : k < 8) : cCel g R (36 + 2 * k) = .inl (0, 40, .inl g) := by
  unfold cCel
  rw [if_neg (by omega), if_neg (by omega), if_neg (by omega), if_neg (by omega), if_neg (by omega), if_neg (by omega), if_neg (by omega), if_neg (by omega), if_neg (by omega), if_pos (by omega), if_neg (by omega)]
variable {k : Nat}
theorem R_at (hk : k < 8) : CH σ u R (35 + 2 * k) = .inr (5, [.int (u (35 + 2 * k) 0), .int (u (35 + 2 * k) 1), .ref (36 + 2 * k)]) := by rw [CH_lt (by omega), cRow hk]
theorem I_at (hk : k < 8) : CH σ u R (36 + 2 * k) = .inl (0, 40, .inl (u (36 + 2 * k))) := by rw [CH_lt (by omega), cItm hk]
theorem R_rv (hN : 66 ≤ N) (hk : k < 8) : rv N (CH σ u R) (35 + 2 * k) 5 = some () := rv_of (by omega) (R_at hk)
theorem R_i0 (hN : 66 ≤ N) (hk : k < 8) : gI N (CH σ u R) (35 + 2 * k) 5 0 = some (u (35 + 2 * k) 0) := gI_of (by omega) (R_at hk) rfl
theorem R_i1 (hN : 66 ≤ N) (hk : k < 8) : gI N (CH σ u R) (35 + 2 * k) 5 1 = some (u (35 + 2 * k) 1) := gI_of (by omega) (R_at hk) rfl
theorem R_r2 (hN : 66 ≤ N) (hk : k < 8) : gR N (CH σ u R) (35 + 2 * k) 5 2 = some (36 + 2 * k) := gR_of (by omega) (R_at hk) rfl
theorem R_p0 (hN : 66 ≤ N) (hk : k < 8) {v : Int32} : pV N (CH σ u R) (35 + 2 * k) 5 0 (.int v) = some (CH σ (va_up u (35 + 2 * k) (upd (u (35 + 2 * k)) 0 v)) R) := by
  rw [pV_of (by omega) (R_at hk) (by simp)]; exact ofN (CH_up (by omega) _ (by rw [cRow hk]; rfl))
theorem R_p1 (hN : 66 ≤ N) (hk : k < 8) {v : Int32} : pV N (CH σ u R) (35 + 2 * k) 5 1 (.int v) = some (CH σ (va_up u (35 + 2 * k) (upd (u (35 + 2 * k)) 1 v)) R) := by
  rw [pV_of (by omega) (R_at hk) (by simp)]; exact ofN (CH_up (by omega) _ (by rw [cRow hk]; rfl))
theorem I_a (hN : 66 ≤ N) (hk : k < 8) {j : Nat} (hj : j < 40) : aI 0 N (CH σ u R) (36 + 2 * k) (nI j) = some (u (36 + 2 * k) j) := aI_of (by omega) (I_at hk) hj (by omega)
theorem I_s (hN : 66 ≤ N) (hk : k < 8) {j : Nat} (hj : j < 40) {v : Int32} : sI 0 N (CH σ u R) (36 + 2 * k) (nI j) v = some (CH σ (va_up u (36 + 2 * k) (upd (u (36 + 2 * k)) j v)) R) := by
  rw [sI_of (by omega) (I_at hk) hj (by omega)]; exact ofN (CH_up (by omega) _ (by rw [cItm hk]; rfl))
end CHs
/-! what the class holds -/
def enK (kd : Nat → Nat) : Nat := kd 0 + kd 1 * 8 + kd 2 * 64 + kd 3 * 512 + kd 4 * 4096 + kd 5 * 32768
/-- a board in six ints -/
def BR (g : Nat → Int32) (b : AB) : Prop := g 0 = nI b.P ∧ g 1 = nI b.D ∧ g 2 = nI b.H ∧ g 3 = nI b.M ∧ g 4 = nI (enK b.kd) ∧ g 5 = nI (arn b)
def imB (i : Option AB) : AB := match i with
  | none => noB
  | some b => b
def RC (u : Nat → Nat → Int32) (s : AS) : Prop :=
  (∀ k, k < 8 → u (35 + 2 * k) 0 = s.lane k ∧ u (35 + 2 * k) 1 = (if s.lane k = -1 then 0 else nI (s.size k)) ∧ ∀ j, j < 40 → u (36 + 2 * k) j = s.items k j) ∧ u 0 11 = s.found ∧ (u 2 1 = nI s.tl ∧ ∀ j, j < s.tl → u 3 j = nI (s.tb j)) ∧ u 0 10 = s.flt ∧ BR (u 4) s.bd ∧ (u 6 2 = nI s.na ∧ ∃ nx, nx < 24 ∧ u 6 1 = nI nx ∧ ∀ j, j < s.na → BR (u (8 + (nx + 24 - s.na + j) % 24)) (s.ac j)) ∧ (∀ k, k < 2 → BR (u (51 + k)) (imB (s.im k))) ∧ (u 33 1 = nI s.trl ∧ ∀ j, j < s.trl → u 34 j = s.tr j)
/-- what a call of the class does that makes no cells -/
def COp (N : Nat) (u : Nat → Nat → Int32) (R : CR) (m : Hp → Option (Int32 × Hp)) (r : Int32) (s' : AS) : Prop :=
  ∀ σ : Hp, ∃ u', m (CH σ u R) = some (r, CH σ u' R) ∧ RC u' s'
theorem BR.eq {g g' : Nat → Int32} {b : AB} (h : BR g b) (e : ∀ j, j < 6 → g' j = g j) : BR g' b := by
  unfold BR
  rw [e 0 (by omega), e 1 (by omega), e 2 (by omega), e 3 (by omega), e 4 (by omega), e 5 (by omega)]; exact h
/-- only the object's ints, the rows and their items differ -/
theorem RC.rws {u u' : Nat → Nat → Int32} {s : AS} {l : Nat → Int32} {z : Nat → Nat} {it : Nat → Nat → Int32} (h : RC u s) (hu : ∀ i, i ≠ 0 → (i < 35 ∨ 51 ≤ i) → u' i = u i) (h0 : u' 0 11 = 0 ∧ u' 0 10 = u 0 10) (hr : ∀ k, k < 8 → u' (35 + 2 * k) 0 = l k ∧ u' (35 + 2 * k) 1 = (if l k = -1 then 0 else nI (z k)) ∧ ∀ j, j < 40 → u' (36 + 2 * k) j = it k j) : RC u' (s.rws l z it) := by
  obtain ⟨h1, h2, h3, h4, h5, ⟨h6, nx, h61, h62, h63⟩, h7, h8⟩ := h
  refine ⟨hr, h0.1, ⟨by rw [hu 2 (by omega) (by omega)]; exact h3.1, by rw [hu 3 (by omega) (by omega)]; exact h3.2⟩, by rw [h0.2]; exact h4, by rw [hu 4 (by omega) (by omega)]; exact h5, ⟨by rw [hu 6 (by omega) (by omega)]; exact h6, nx, h61, by rw [hu 6 (by omega) (by omega)]; exact h62, fun j hj => by rw [hu _ (by omega) (by omega)]; exact h63 j hj⟩, fun k hk => by rw [hu _ (by omega) (by omega)]; exact h7 k hk, ⟨by rw [hu 33 (by omega) (by omega)]; exact h8.1, by rw [hu 34 (by omega) (by omega)]; exact h8.2⟩⟩
theorem RC.fnd {u : Nat → Nat → Int32} {s : AS} (h : RC u s) (v : Int32) : RC (va_up u 0 (upd (u 0) 11 v)) (s.fnd v) := by
  obtain ⟨h1, h2, h3, h4, h5, ⟨h6, nx, h61, h62, h63⟩, h7, h8⟩ := h
  refine ⟨fun k hk => ?_, by rw [vup_s, upd_s]; rfl, ⟨by rw [vup_n (by omega)]; exact h3.1, by rw [vup_n (by omega)]; exact h3.2⟩, by rw [vup_s, upd_n (by decide)]; exact h4, by rw [vup_n (by omega)]; exact h5, ⟨by rw [vup_n (by omega)]; exact h6, nx, h61, by rw [vup_n (by omega)]; exact h62, fun j hj => by rw [vup_n (by omega)]; exact h63 j hj⟩, fun k hk => by rw [vup_n (by omega)]; exact h7 k hk, ⟨by rw [vup_n (by omega)]; exact h8.1, by rw [vup_n (by omega)]; exact h8.2⟩⟩
  rw [vup_n (by omega), vup_n (by omega)]; exact h1 k hk
section CS
variable {N : Nat} {σ : Hp} {u : Nat → Nat → Int32} {R : CR}
theorem found_ok (hN : 66 ≤ N) (x : Int32) : m_X8_found N (CH σ u R) 0 x = some (-1000010 - x, CH σ (va_up u 0 (upd (u 0) 11 x)) R) := by
  unfold m_X8_found
  rw [C_rv hN]
  simp only [Option.bind_some]
  rw [C_p11 hN]
  rfl
theorem well_ok (hN : 66 ≤ N) (x : Int32) : m_X8_well N (CH σ u R) 0 x = some (x, CH σ (va_up u 0 (upd (u 0) 11 0)) R) := by
  unfold m_X8_well
  rw [C_rv hN]
  simp only [Option.bind_some]
  rw [C_p11 hN]
  rfl
theorem rowAt_ok (hN : 66 ≤ N) (x : Int32) : m_X8_rowAt N (CH σ u R) 0 x = some (if 0 ≤ x ∧ x ≤ 7 then some (35 + 2 * nt x) else none) := by
  unfold m_X8_rowAt
  rw [C_rv hN]
  simp only [Option.bind_some]
  by_cases c : 0 ≤ x ∧ x ≤ 7
  · obtain ⟨k, hk, rfl⟩ := i7 c
    rw [if_pos c, if_neg (nI_nlt0 (by omega)), if_pos (show nI k < 8 by rw [show (8 : Int32) = nI 8 from rfl, nI_ltI (by omega) (by omega)]; exact hk), C_r0 hN, nt_nI (by omega)]
    simp only [Option.bind_some]
    rw [C_rows hN hk]
    rfl
  · rw [if_neg c]
    by_cases c1 : x < 0
    · rw [if_pos c1]
    · rw [if_neg c1, if_neg (fun c2 => c ⟨by rw [Int32.le_iff_toInt_le]; rw [Int32.lt_iff_toInt_lt] at c1; omega, by
        rw [Int32.le_iff_toInt_le]; rw [Int32.lt_iff_toInt_lt, show (8 : Int32).toInt = 8 from rfl] at c2; rw [show (7 : Int32).toInt = 7 from rfl]; omega⟩)]
end CS
