/-! the class: boards, acts, images -/
theorem rng2 {α : Type} {x a b : Int32} {E T : α} : (if x < a then E else if x ≤ b then T else E) = if a ≤ x ∧ x ≤ b then T else E := by
  by_cases c1 : x < a
  · rw [if_pos c1, if_neg (fun e => by have := e.1; rw [Int32.le_iff_toInt_le] at this; rw [Int32.lt_iff_toInt_lt] at c1; omega)]
  · rw [if_neg c1]
    have h1 : a ≤ x := by rw [Int32.le_iff_toInt_le]; rw [Int32.lt_iff_toInt_lt] at c1; omega
    by_cases c2 : x ≤ b
    · rw [if_pos c2, if_pos ⟨h1, c2⟩]
    · rw [if_neg c2, if_neg (fun e => c2 e.2)]
theorem rng3 {α : Type} {x a b : Int32} {E T : α} : (if x < a then E else if b < x then E else T) = if a ≤ x ∧ x ≤ b then T else E := by
  rw [← rng2]
  by_cases c : b < x
  · rw [if_pos c, if_neg (show ¬ x ≤ b from fun e => by rw [Int32.le_iff_toInt_le] at e; rw [Int32.lt_iff_toInt_lt] at c; omega)]
  · rw [if_neg c, if_pos (show x ≤ b by rw [Int32.le_iff_toInt_le]; rw [Int32.lt_iff_toInt_lt] at c; omega)]
theorem lt2 {x : Int32} : x < 2 ↔ x ≤ 1 := by
  rw [Int32.lt_iff_toInt_lt, Int32.le_iff_toInt_le, show (2 : Int32).toInt = 2 from rfl, show (1 : Int32).toInt = 1 from rfl]; omega
/-- x, lower and upper bound left out -/
theorem ofR {x : Int32} {n : Nat} (hn : n < 2 ^ 31) (h : 0 ≤ x ∧ x < nI n) : ∃ k, k < n ∧ x = nI k := by
  obtain ⟨k, hk, rfl⟩ := ni_of (n := n) hn h.1 (by rw [Int32.le_iff_toInt_le]; have := h.2; rw [Int32.lt_iff_toInt_lt] at this; omega)
  have := h.2
  rw [nI_ltI (by omega) hn] at this
  exact ⟨k, this, rfl⟩
theorem BR.bl {m : Nat} {g : Nat → Int32} {b : AB} (h : BR g b) (hV : VB m b) : BL g b.P b.H b.D b.kd := by
  obtain ⟨h4, h6, hP, hH, hM, hk⟩ := hV.d4
  obtain ⟨g0, g1, g2, g3, g4, g5⟩ := h
  refine ⟨g0, g1, g2, hP, h6, hH, ⟨enK b.kd, g4, ?_, ?_⟩, ?_⟩
  · have := hk 0; have := hk 1; have := hk 2; have := hk 3; have := hk 4; have := hk 5
    unfold enK; omega
  · intro d hd
    have := hk 0; have := hk 1; have := hk 2; have := hk 3; have := hk 4; have := hk 5
    unfold enK
    rcases (show d = 0 ∨ d = 1 ∨ d = 2 ∨ d = 3 ∨ d = 4 ∨ d = 5 by omega) with rfl | rfl | rfl | rfl | rfl | rfl <;> omega
  · intro d hd
    rcases hV with e | ⟨_, _, _, _, _, _, h7, _⟩
    · rw [e] at hd; exact absurd hd (by show ¬ d < 0; omega)
    · exact ⟨(h7 d hd).1, (h7 d hd).2.1⟩
theorem stx_mod {m : Nat} {b : AB} (h : VB m b) : stx b % 4096 = arn b := by
  have := arn_lt h
  unfold stx; split <;> omega
theorem stx_odd {m : Nat} {b : AB} (h : VB m b) : decide (4096 ≤ stx b) = decide (b.M % 2 = 1) := by
  have := arn_lt h
  unfold stx
  by_cases c : b.M % 2 = 1
  · rw [if_pos c, decide_eq_true c, decide_eq_true (by omega)]
  · rw [if_neg c, decide_eq_false c, decide_eq_false (by omega)]
theorem arn_pg {m : Nat} {b : AB} (h : VB m b) {d : Nat} (hd : d < b.D) : pgx (arn b) d = b.pg d := encP_pg (fun d _ => h.d4.1 d) hd
section CA
variable {N m : Nat} {τ : Hp} {c : Nat} {g : Nat → Int32} {b : AB}
theorem isNone_ok (h : BH N τ c g) (hB : BR g b) (hV : VB m b) : m_X2_isNone N τ c = some (if b.P = 0 then 1 else 0) := by
  have hP := hV.d4.2.2.1
  unfold m_X2_isNone
  rw [h.rv, h.i0, hB.1]
  simp only [Option.bind_some]
  by_cases c : b.P = 0
  · rw [if_pos c, c, if_pos (show nI 0 = 0 from rfl)]
  · rw [if_neg c, if_neg (nI_ne0 (by omega) (by omega))]
theorem hasPeg_ok (h : BH N τ c g) {P : Nat} (h0 : g 0 = nI P) (x : Int32) : m_X2_hasPeg N τ c x = some (if 0 ≤ x ∧ x < nI P then 1 else 0) := by
  unfold m_X2_hasPeg
  rw [h.rv, h.i0, h0]
  simp only [Option.bind_some]
  by_cases c1 : x < 0
  · rw [if_pos c1, if_neg (fun e => by have := e.1; rw [Int32.le_iff_toInt_le] at this; rw [Int32.lt_iff_toInt_lt] at c1; omega)]
  · rw [if_neg c1]
    have h1 : 0 ≤ x := by rw [Int32.le_iff_toInt_le]; rw [Int32.lt_iff_toInt_lt] at c1; omega
    by_cases c2 : nI P ≤ x
    · rw [if_pos c2, if_neg (fun e => by have := e.2; rw [Int32.lt_iff_toInt_lt] at this; rw [Int32.le_iff_toInt_le] at c2; omega)]
    · have h2 : x < nI P := by rw [Int32.lt_iff_toInt_lt]; rw [Int32.le_iff_toInt_le] at c2; omega
      rw [if_neg c2, if_pos ⟨h1, h2⟩]
theorem hasDisc_ok (h : BH N τ c g) {D : Nat} (h0 : g 1 = nI D) (x : Int32) : m_X2_hasDisc N τ c x = some (if 0 ≤ x ∧ x < nI D then 1 else 0) := by
  unfold m_X2_hasDisc
  rw [h.rv, h.i1, h0]
  simp only [Option.bind_some]
  by_cases c1 : x < 0
  · rw [if_pos c1, if_neg (fun e => by have := e.1; rw [Int32.le_iff_toInt_le] at this; rw [Int32.lt_iff_toInt_lt] at c1; omega)]
  · rw [if_neg c1]
    have h1 : 0 ≤ x := by rw [Int32.le_iff_toInt_le]; rw [Int32.lt_iff_toInt_lt] at c1; omega
    by_cases c2 : nI D ≤ x
    · rw [if_pos c2, if_neg (fun e => by have := e.2; rw [Int32.lt_iff_toInt_lt] at this; rw [Int32.le_iff_toInt_le] at c2; omega)]
    · have h2 : x < nI D := by rw [Int32.lt_iff_toInt_lt]; rw [Int32.le_iff_toInt_le] at c2; omega
      rw [if_neg c2, if_pos ⟨h1, h2⟩]
theorem pegOf_ok (h : BH N τ c g) {x : Nat} (hx : x < 8192) (h5 : g 5 = nI x) {d : Nat} (hd : d < 16) : m_X2_pegOf N τ c (nI d) = some (nI (pgx x d)) := by
  unfold m_X2_pegOf
  rw [h.rv, h.i5, h5]
  simp only [Option.bind_some]
  rw [peg_bits (by omega) hd]
theorem lyingOn_ok (h : BH N τ c g) {x D p : Nat} (hx : x < 8192) (h5 : g 5 = nI x) (h1 : g 1 = nI D) (h6 : D ≤ 6) (hp : p < 4) : m_X2_lyingOn N τ c (nI p) = some (nI (lset x p D)) := by
  unfold m_X2_lyingOn
  rw [h.rv, h.i5, h5]
  simp only [Option.bind_some]
  rw [lyingIn_ok h h1 h6 hx]
  simp only [Option.bind_some]
  rw [on_bits (LI_lt x D h6) hp, LI_on h6 hp]
theorem topOf_ok (h : BH N τ c g) {x D p : Nat} (hx : x < 8192) (h5 : g 5 = nI x) (h1 : g 1 = nI D) (h6 : D ≤ 6) (hp : p < 4) (h0 : lset x p D ≠ 0) : m_X2_topOf N τ c (nI p) = some (nI (low (lset x p D))) := by
  unfold m_X2_topOf
  rw [h.rv, lyingOn_ok h hx h5 h1 h6 hp]
  simp only [Option.bind_some]
  rw [(least_64 _ (lset_64 h6)).resolve_left h0]
  rfl
/-- moves, by the parity of the moves that were -/
theorem movesNow_gen (h : BH N τ c g) {P H D : Nat} {kd : Nat → Nat} (hL : BL g P H D kd) {x M : Nat} (hx : x < 4096) (hM : M < 2 ^ 31) (h5 : g 5 = nI x) (h3 : g 3 = nI M) : m_X2_movesNow N τ c = some (nI (mms P H D kd (x + 4096 * (M % 2)))) := by
  unfold m_X2_movesNow
  rw [h.rv, h.i5, h.i3, h5, h3]
  simp only [Option.bind_some]
  rw [show nI M &&& 1 = nI (M % 2) from pk_andN (k := 1) (by omega) (by decide +kernel)]
  have hz : ((if nI (M % 2) = 0 then some 0 else some 1) : Option Int32) = some (bI (decide (4096 ≤ x + 4096 * (M % 2)))) := by
    by_cases c : M % 2 = 0
    · rw [c, if_pos (show nI 0 = 0 from rfl), decide_eq_false (by omega)]; rfl
    · rw [show M % 2 = 1 by omega, if_neg (show ¬ nI 1 = 0 by decide +kernel), decide_eq_true (by omega)]; rfl
  rw [hz]
  simp only [Option.bind_some]
  have := movesFrom_ok h hL (x := x + 4096 * (M % 2)) (by omega)
  rw [show (x + 4096 * (M % 2)) % 4096 = x by omega] at this
  rw [this]
  rfl
theorem stx_eq {b : AB} : stx b = arn b + 4096 * (b.M % 2) := by
  unfold stx
  split <;> omega
theorem movesNow_ok (h : BH N τ c g) (hB : BR g b) (hV : VB m b) (hm : m < 2 ^ 30) : m_X2_movesNow N τ c = some (nI (mms b.P b.H b.D b.kd (stx b))) := by
  rw [stx_eq]
  exact movesNow_gen h (hB.bl hV) (arn_lt hV) (by have := hV.d4.2.2.2.2.1; omega) hB.2.2.2.2.2 hB.2.2.2.1
theorem take_ok (h : BH N τ c g) {c2 : Nat} {g2 : Nat → Int32} (h2 : BH N τ c2 g2) (hne : c ≠ c2) : m_X2_take N τ c c2 = some (va_up τ c (bC g2)) := by
  have hn : c2 ≠ c := fun e => hne e.symm
  unfold m_X2_take
  rw [h.rv, h2.i0]
  simp only [Option.bind_some]
  rw [h.put (by omega)]
  simp only [Option.bind_some]
  have k1 := (h.up (upd g 0 (g2 0)))
  rw [(h2.ne hn _).i1]
  simp only [Option.bind_some]
  rw [k1.put (by omega), vup_vup]
  simp only [Option.bind_some]
  have k2 := (h.up (upd (upd g 0 (g2 0)) 1 (g2 1)))
  rw [(h2.ne hn _).i2]
  simp only [Option.bind_some]
  rw [k2.put (by omega), vup_vup]
  simp only [Option.bind_some]
  have k3 := (h.up (upd (upd (upd g 0 (g2 0)) 1 (g2 1)) 2 (g2 2)))
  rw [(h2.ne hn _).i3]
  simp only [Option.bind_some]
  rw [k3.put (by omega), vup_vup]
  simp only [Option.bind_some]
  have k4 := (h.up (upd (upd (upd (upd g 0 (g2 0)) 1 (g2 1)) 2 (g2 2)) 3 (g2 3)))
  rw [(h2.ne hn _).i4]
  simp only [Option.bind_some]
  rw [k4.put (by omega), vup_vup]
  simp only [Option.bind_some]
  have k5 := (h.up (upd (upd (upd (upd (upd g 0 (g2 0)) 1 (g2 1)) 2 (g2 2)) 3 (g2 3)) 4 (g2 4)))
  rw [(h2.ne hn _).i5]
  simp only [Option.bind_some]
  rw [k5.put (by omega), vup_vup]
  simp only [Option.bind_some]
  congr 1
theorem carryOut_ok (h : BH N τ c g) {P H D : Nat} {kd : Nat → Nat} (hL : BL g P H D kd) {x k M : Nat} (hx : x < 8192) (hk : lgl P H D kd x k = true) (h5 : g 5 = nI (x % 4096)) (h3 : g 3 = nI M) : m_X2_carryOut N τ c (nI k) = some (va_up τ c (bC (upd (upd g 5 (nI (bhd H D kd x k % 4096))) 3 (nI (M + 1))))) := by
  unfold m_X2_carryOut
  rw [h.rv, h.i5, h5]
  simp only [Option.bind_some]
  rw [cbehind_ok h hL hx hk]
  simp only [Option.bind_some]
  rw [h.put (by omega)]
  simp only [Option.bind_some]
  have k1 := h.up (upd g 5 (nI (bhd H D kd x k % 4096)))
  rw [k1.i3, upd_n (by decide), h3]
  simp only [Option.bind_some]
  rw [k1.put (by omega), vup_vup, nI_1]
  rfl
theorem cCode_loop {x D : Nat} (hx : x < 2 ^ 31) (hD : D ≤ 6) : ∀ (r n : Nat), r ≤ D → r < n → L_X2_codeOf_9 N τ (nI x) n (nI (cdR x D (D - r))) (nI r - 1) = some (nI (cod x D)) := by
  intro r
  induction r with
  | zero =>
    intro n hr hn
    obtain ⟨n, rfl⟩ : ∃ k, n = k + 1 := ⟨n - 1, by omega⟩
    rw [L_X2_codeOf_9.eq_2, if_pos (show nI 0 - 1 < 0 by decide +kernel)]
    rfl
  | succ r ih =>
    intro n hr hn
    obtain ⟨n, rfl⟩ : ∃ k, n = k + 1 := ⟨n - 1, by omega⟩
    rw [L_X2_codeOf_9.eq_2, nI_pred, if_neg (nI_pos (by omega)), peg_bits hx (by omega), show (10 : Int32) = nI 10 from rfl, pk_mul, nI_add, lt, show nI r + (-1) = nI r - 1 by rw [Int32.sub_eq_add_neg]]
    have := ih n (by omega) (by omega)
    rw [show D - r = D - (r + 1) + 1 by omega, cdR, show D - (D - (r + 1) + 1) = r by omega] at this
    exact this
theorem cCode_ok (h : BH N τ c g) {x D : Nat} (hD : g 1 = nI D) (h6 : D ≤ 6) (hx : x < 2 ^ 31) : m_X2_codeOf N τ c (nI x) = some (nI (cod x D)) := by
  unfold m_X2_codeOf
  rw [h.rv, h.i1, hD]
  simp only [Option.bind_some]
  have := cCode_loop (N := N) (τ := τ) hx h6 D fu (Nat.le_refl _) (by show _ < 20000; omega)
  rw [Nat.sub_self, show cdR x D 0 = 0 from rfl, nI_0] at this
  rw [this]
  rfl
end CA
/-- the board, the acts, the supposed board differ -/
theorem RC.brd {u u' : Nat → Nat → Int32} {s : AS} {bd : AB} {n nx : Nat} {ac : Nat → AB} (h : RC u s) (hu : ∀ i, i ≠ 4 → i ≠ 5 → i ≠ 6 → (i < 8 ∨ 32 ≤ i) → u' i = u i) (hb : BR (u' 4) bd) (hn : u' 6 2 = nI n) (hx : nx < 24) (hx2 : u' 6 1 = nI nx) (ha : ∀ j, j < n → BR (u' (8 + (nx + 24 - n + j) % 24)) (ac j)) : RC u' (s.brd bd n ac) := by
  obtain ⟨h1, h2, h3, h4, h5, h6, h7, h8⟩ := h
  refine ⟨fun k hk => ?_, by rw [hu 0 (by omega) (by omega) (by omega) (by omega)]; exact h2, ⟨by rw [hu 2 (by omega) (by omega) (by omega) (by omega)]; exact h3.1, by rw [hu 3 (by omega) (by omega) (by omega) (by omega)]; exact h3.2⟩, by rw [hu 0 (by omega) (by omega) (by omega) (by omega)]; exact h4, hb, ⟨hn, nx, hx, hx2, ha⟩, fun k hk => by rw [hu _ (by omega) (by omega) (by omega) (by omega)]; exact h7 k hk, ⟨by rw [hu 33 (by omega) (by omega) (by omega) (by omega)]; exact h8.1, by rw [hu 34 (by omega) (by omega) (by omega) (by omega)]; exact h8.2⟩⟩
  rw [hu (35 + 2 * k) (by omega) (by omega) (by omega) (by omega), hu (36 + 2 * k) (by omega) (by omega) (by omega) (by omega)]
  exact h1 k hk
/-- the supposed board is nobody's -/
theorem RC.tri {u u' : Nat → Nat → Int32} {s : AS} (h : RC u s) (hu : ∀ i, i ≠ 5 → u' i = u i) : RC u' s := by
  obtain ⟨h1, h2, h3, h4, h5, ⟨h6, nx, h61, h62, h63⟩, h7, h8⟩ := h
  refine ⟨fun k hk => ?_, by rw [hu 0 (by omega)]; exact h2, ⟨by rw [hu 2 (by omega)]; exact h3.1, by rw [hu 3 (by omega)]; exact h3.2⟩, by rw [hu 0 (by omega)]; exact h4, by rw [hu 4 (by omega)]; exact h5, ⟨by rw [hu 6 (by omega)]; exact h6, nx, h61, by rw [hu 6 (by omega)]; exact h62, fun j hj => by rw [hu _ (by omega)]; exact h63 j hj⟩, fun k hk => by rw [hu _ (by omega)]; exact h7 k hk, ⟨by rw [hu 33 (by omega)]; exact h8.1, by rw [hu 34 (by omega)]; exact h8.2⟩⟩
  rw [hu (35 + 2 * k) (by omega), hu (36 + 2 * k) (by omega)]
  exact h1 k hk
section CA2
variable {N m : Nat} {σ : Hp} {u : Nat → Nat → Int32} {R : CR} {s : AS}
theorem b4 : isB 4 := Or.inl rfl
theorem b5 : isB 5 := Or.inr (Or.inl rfl)
/-- an act is kept -/
theorem keep_ok (hN : 66 ≤ N) (h : RC u s) (hv : VA m s) : ∃ u' nx, m_X0_keep N (CH σ u R) 6 4 = some (CH σ u' R) ∧ (∀ i, i ≠ 6 → (i < 8 ∨ 32 ≤ i) → u' i = u i) ∧ u' 6 2 = nI (pshN s) ∧ nx < 24 ∧ u' 6 1 = nI nx ∧ ∀ j, j < pshN s → BR (u' (8 + (nx + 24 - pshN s + j) % 24)) (pshC s j) := by
  obtain ⟨_, _, _, _, h5, ⟨h6, nx, h61, h62, h63⟩, _, _⟩ := h
  have hna := hv.2.2.2.1.1
  have hbn : isB (8 + nx) := Or.inr (Or.inr (Or.inl (by omega)))
  unfold m_X0_keep
  rw [A_rv hN, A_r0 hN, A_i1 hN, h62]
  simp only [Option.bind_some]
  rw [C_acts hN h61]
  simp only [Option.bind_some]
  rw [take_ok (CH_b hN hbn) (CH_b hN b4) (by omega), CH_ub hbn]
  simp only [Option.bind_some]
  rw [A_i1 hN, vup_n (show 6 ≠ 8 + nx by omega), h62]
  simp only [Option.bind_some]
  have hz6 : ((if (24 : Int32) ≤ nI nx + 1 then some 0 else some (nI nx + 1)) : Option Int32) = some (nI ((nx + 1) % 24)) := by
    rw [nI_1]
    by_cases c : 24 ≤ nx + 1
    · rw [if_pos (show (24 : Int32) ≤ nI (nx + 1) by rw [show (24 : Int32) = nI 24 from rfl, nI_leI (by omega) (by omega)]; exact c), show (nx + 1) % 24 = 0 by omega]; rfl
    · rw [if_neg (show ¬ (24 : Int32) ≤ nI (nx + 1) by rw [show (24 : Int32) = nI 24 from rfl, nI_leI (by omega) (by omega)]; exact c), show (nx + 1) % 24 = nx + 1 by omega]
  rw [hz6]
  simp only [Option.bind_some]
  rw [A_p1 hN, vup_n (show 6 ≠ 8 + nx by omega)]
  simp only [Option.bind_some]
  rw [A_i2 hN, vup_s, upd_n (by decide), h6]
  simp only [Option.bind_some]
  have hz9 : ((if (24 : Int32) ≤ nI s.na then some 24 else some (nI s.na + 1)) : Option Int32) = some (nI (pshN s)) := by
    unfold pshN
    by_cases c : s.na = 24
    · rw [if_pos c, c, if_pos (show (24 : Int32) ≤ nI 24 by decide +kernel)]; rfl
    · rw [if_neg c, if_neg (show ¬ (24 : Int32) ≤ nI s.na by rw [show (24 : Int32) = nI 24 from rfl, nI_leI (by omega) (by omega)]; omega), nI_1]
  rw [hz9]
  simp only [Option.bind_some]
  rw [A_p2 hN, vup_s, vup_vup]
  refine ⟨_, (nx + 1) % 24, rfl, fun i h1 h2 => by rw [vup_n h1, vup_n (by omega)], by rw [vup_s, upd_s], Nat.mod_lt _ (by omega), by rw [vup_s, upd_n (by decide), upd_s], fun j hj => ?_⟩
  unfold pshN at hj ⊢
  unfold pshC
  by_cases c : s.na = 24
  · rw [if_pos c] at hj
    rw [if_pos c, if_pos c]
    show BR _ (if j = 23 then s.bd else s.ac (j + 1))
    by_cases e : j = 23
    · subst e
      rw [if_pos rfl, show 8 + ((nx + 1) % 24 + 24 - 24 + 23) % 24 = 8 + nx by omega, vup_n (by omega), vup_s]
      exact h5
    · rw [if_neg e, vup_n (by omega), vup_n (by omega), show 8 + ((nx + 1) % 24 + 24 - 24 + j) % 24 = 8 + (nx + 24 - s.na + (j + 1)) % 24 by omega]
      exact h63 (j + 1) (by omega)
  · rw [if_neg c] at hj
    rw [if_neg c, if_neg c]
    by_cases e : j = s.na
    · subst e
      rw [vup_s, show 8 + ((nx + 1) % 24 + 24 - (s.na + 1) + s.na) % 24 = 8 + nx by omega, vup_n (by omega), vup_s]
      exact h5
    · rw [vup_n e, vup_n (by omega), vup_n (by omega), show 8 + ((nx + 1) % 24 + 24 - (s.na + 1) + j) % 24 = 8 + (nx + 24 - s.na + j) % 24 by omega]
      exact h63 j (by omega)
end CA2
