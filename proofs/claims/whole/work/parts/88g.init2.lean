/-! the class's constructor -/
theorem tape_init {N t0 : Nat} {σ : Hp} (ht : t0 < N) (hN : N < 900000) (h0 : σ t0 = .inr (7, [.null, .int 0, .int 0, .int 0, .int 0])) (hO : OKA N σ) : m_X7_init N σ t0 = some (N + 1, va_up (va_up σ N (.inl (0, 60, .inl (fun _ => 0)))) t0 (.inr (7, [.ref N, .int 0, .int 0, .int 0, .int 0]))) ∧ OKA (N + 1) (va_up (va_up σ N (.inl (0, 60, .inl (fun _ => 0)))) t0 (.inr (7, [.ref N, .int 0, .int 0, .int 0, .int 0]))) := by
  unfold m_X7_init
  rw [al_ok (HW_of hO) (fun x hx => by simp at hx; omega) (by omega) (by omega) (by omega)]
  simp only [Option.bind_some, mkc]
  rw [pV_of (i := t0) (fs := [.null, .int 0, .int 0, .int 0, .int 0]) (by omega) (by rw [vup_n (by omega)]; exact h0) (by simp)]
  refine ⟨rfl, OKA.up (hO.mono_up okE_i) (okE_o (fun v hv => ?_))⟩
  simp only [List.mem_cons, List.not_mem_nil, or_false] at hv
  rcases hv with rfl | rfl | rfl | rfl | rfl
  all_goals first | exact trivial | (show N < N + 1; omega)
theorem asker_init {N t0 : Nat} {σ : Hp} (ht : t0 < N) (hN : N < 900000) (h0 : σ t0 = .inr (1, [.null, .int 0, .int 0, .int 0, .int 0, .int 0])) (hO : OKA N σ) : m_X1_init N σ t0 = some (N + 1, va_up (va_up σ N (.inl (0, 16, .inl (fun _ => 0)))) t0 (.inr (1, [.ref N, .int 0, .int 0, .int 0, .int 0, .int 0]))) ∧ OKA (N + 1) (va_up (va_up σ N (.inl (0, 16, .inl (fun _ => 0)))) t0 (.inr (1, [.ref N, .int 0, .int 0, .int 0, .int 0, .int 0]))) := by
  unfold m_X1_init
  rw [al_ok (HW_of hO) (fun x hx => by simp at hx; omega) (by omega) (by omega) (by omega)]
  simp only [Option.bind_some, mkc]
  rw [pV_of (i := t0) (fs := [.null, .int 0, .int 0, .int 0, .int 0, .int 0]) (by omega) (by rw [vup_n (by omega)]; exact h0) (by simp)]
  refine ⟨rfl, OKA.up (hO.mono_up okE_i) (okE_o (fun v hv => ?_))⟩
  simp only [List.mem_cons, List.not_mem_nil, or_false] at hv
  rcases hv with rfl | rfl | rfl | rfl | rfl | rfl
  all_goals first | exact trivial | (show N < N + 1; omega)
theorem acts_init {N t0 : Nat} {σ : Hp} (ht : t0 < N) (hN : N < 800000) (h0 : σ t0 = .inr (0, [.null, .int 0, .int 0])) (hO : OKA N σ) : ∃ σ', m_X0_init N σ t0 = some (N + 1 + 24, σ') ∧ σ' t0 = .inr (0, [.ref N, .int 0, .int 0]) ∧ σ' N = rA 4 24 24 (N + 1) 1 ∧ (∀ i, N + 1 ≤ i → i < N + 1 + 24 → σ' i = bC (fun _ => 0)) ∧ (∀ i, i ≠ t0 → i < N → σ' i = σ i) ∧ OKA (N + 1 + 24) σ' := by
  unfold m_X0_init
  rw [al_ok (HW_of hO) (fun x hx => by simp at hx; omega) (by omega) (by omega) (by omega)]
  simp only [Option.bind_some, mkc]
  rw [pV_of (i := t0) (fs := [.null, .int 0, .int 0]) (by omega) (by rw [vup_n (by omega)]; exact h0) (by simp)]
  simp only [Option.bind_some, List.set]
  rw [← rA_0 (b := N + 1) (d := 1)]
  have o1 : OKA (N + 1) (va_up (va_up σ N (rA 4 24 0 (N + 1) 1)) t0 (.inr (0, [.ref N, .int 0, .int 0]))) := OKA.up (hO.mono_up (okE_rA (fun j hj => absurd hj (by omega)))) (okE_o (fun v hv => by
    simp only [List.mem_cons, List.not_mem_nil, or_false] at hv
    rcases hv with rfl | rfl | rfl
    · show N < N + 1; omega
    · exact trivial
    · exact trivial))
  obtain ⟨σ', c', s', g1, g2, g3, g4, g5⟩ := acts_loop (v0 := t0) (a := N) (N0 := N + 1) ht (by omega) (by omega) 24 fu 0 (0 + 1) (0 + 24) _ (by omega) (by show _ < 20000; omega) vup_s (by rw [vup_n (by omega), vup_s]) o1 (by omega) (by omega)
  have g1' : L_X0_init_15 t0 fu (N + 1) (0 + 1) (0 + 24) (va_up (va_up σ N (rA 4 24 0 (N + 1) 1)) t0 (.inr (0, [.ref N, .int 0, .int 0]))) 0 = some (N + 1 + 24, c', s', σ') := g1
  rw [g1']
  refine ⟨σ', rfl, ?_, g2, fun i a b => g3 i (by omega) b, fun i a b => ?_, g5⟩
  · rw [g4 t0 (by omega) (by omega), vup_s]
  · rw [g4 i (by omega) (by omega), vup_n a, vup_n (by omega)]
/-- what a new class holds -/
def u0 : Nat → Nat → Int32 := fun i k => if 35 ≤ i ∧ i < 51 ∧ i % 2 = 1 ∧ k = 0 then -1 else 0
theorem u0_n {i : Nat} (h : ¬ (35 ≤ i ∧ i < 51 ∧ i % 2 = 1)) : u0 i = fun _ => 0 := by
  funext k
  exact if_neg (fun e => h ⟨e.1, e.2.1, e.2.2.1⟩)
set_option maxHeartbeats 4000000 in
set_option maxRecDepth 100000 in
theorem class_init {σ : Hp} (h0 : σ 0 = .inr (8, [.null, .null, .null, .null, .null, .null, .null, .null, .null, .null, .int 0, .int 0])) (hO : OKA 1 σ) : ∃ σ', m_X8_init 1 σ 0 = some (53, σ') ∧ (∀ i, i < 53 → σ' i = cCel (u0 i) (0, 0, 0) i) ∧ OKA 53 σ' := by
  unfold m_X8_init
  rw [al_ok (HW_of hO) (fun x hx => by simp at hx; omega) (by omega) (by omega) (by omega)]
  simp only [Option.bind_some, mkc, List.set, Nat.reduceAdd]
  have o1 : OKA 2 _ := OKA.mono_up hO (e := .inl (5, 8, .inr (.inr (.inr (.inr (fun _ => none)))))) (okE_r (fun _ _ e => by cases e))
  rw [pV_of (i := 0) (fs := [.null, .null, .null, .null, .null, .null, .null, .null, .null, .null, .int 0, .int 0]) (by omega) (by simp [va_up, h0]) (by simp)]
  simp only [Option.bind_some, mkc, List.set, Nat.reduceAdd]
  have o2 : OKA 2 _ := OKA.up o1 (k := 0) (e := .inr (8, [.ref 1, .null, .null, .null, .null, .null, .null, .null, .null, .null, .int 0, .int 0])) (okE_L rfl)
  rw [al_ok (HW_of o2) (fun x hx => by simp at hx; omega) (by omega) (by omega) (by omega)]
  simp only [Option.bind_some, mkc, List.set, Nat.reduceAdd]
  have o3 : OKA 3 _ := OKA.mono_up o2 (e := .inr (7, [.null, .int 0, .int 0, .int 0, .int 0])) (okE_L rfl)
  rw [al_ok (HW_of o3) (fun x hx => by simp at hx; omega) (by omega) (by omega) (by omega)]
  simp only [Option.bind_some, mkc, List.set, Nat.reduceAdd]
  obtain ⟨t1, t2⟩ := tape_init (t0 := 2) (by omega) (by omega) (by simp [va_up]) o3
  rw [t1]
  simp only [Option.bind_some, mkc, List.set, Nat.reduceAdd]
  rw [nb_ok (by omega)]
  simp only [Option.bind_some, mkc, List.set, Nat.reduceAdd]
  have t3 : OKA 4 _ := t2
  rw [pV_of (i := 0) (fs := [.ref 1, .null, .null, .null, .null, .null, .null, .null, .null, .null, .int 0, .int 0]) (by omega) (by simp [va_up, h0]) (by simp)]
  simp only [Option.bind_some, mkc, List.set, Nat.reduceAdd]
  have o4 : OKA 4 _ := OKA.up t3 (k := 0) (e := .inr (8, [.ref 1, .ref 2, .null, .null, .null, .null, .null, .null, .null, .null, .int 0, .int 0])) (okE_L rfl)
  rw [al_ok (HW_of o4) (fun x hx => by simp at hx; omega) (by omega) (by omega) (by omega)]
  simp only [Option.bind_some, mkc, List.set, Nat.reduceAdd]
  have o5 : OKA 5 _ := OKA.mono_up o4 (e := .inr (2, [.int 0, .int 0, .int 0, .int 0, .int 0, .int 0])) (okE_L rfl)
  rw [al_ok (HW_of o5) (fun x hx => by simp at hx; omega) (by omega) (by omega) (by omega)]
  simp only [Option.bind_some, mkc, List.set, Nat.reduceAdd]
  simp only [m_X2_init, Option.bind_some]
  rw [nb_ok (by omega)]
  simp only [Option.bind_some, mkc, List.set, Nat.reduceAdd]
  rw [pV_of (i := 0) (fs := [.ref 1, .ref 2, .null, .null, .null, .null, .null, .null, .null, .null, .int 0, .int 0]) (by omega) (by simp [va_up, h0]) (by simp)]
  simp only [Option.bind_some, mkc, List.set, Nat.reduceAdd]
  have o6 : OKA 5 _ := OKA.up o5 (k := 0) (e := .inr (8, [.ref 1, .ref 2, .ref 4, .null, .null, .null, .null, .null, .null, .null, .int 0, .int 0])) (okE_L rfl)
  rw [al_ok (HW_of o6) (fun x hx => by simp at hx; omega) (by omega) (by omega) (by omega)]
  simp only [Option.bind_some, mkc, List.set, Nat.reduceAdd]
  have o7 : OKA 6 _ := OKA.mono_up o6 (e := .inr (2, [.int 0, .int 0, .int 0, .int 0, .int 0, .int 0])) (okE_L rfl)
  rw [al_ok (HW_of o7) (fun x hx => by simp at hx; omega) (by omega) (by omega) (by omega)]
  simp only [Option.bind_some, mkc, List.set, Nat.reduceAdd]
  rw [nb_ok (by omega)]
  simp only [Option.bind_some, mkc, List.set, Nat.reduceAdd]
  rw [pV_of (i := 0) (fs := [.ref 1, .ref 2, .ref 4, .null, .null, .null, .null, .null, .null, .null, .int 0, .int 0]) (by omega) (by simp [va_up, h0]) (by simp)]
  simp only [Option.bind_some, mkc, List.set, Nat.reduceAdd]
  have o8 : OKA 6 _ := OKA.up o7 (k := 0) (e := .inr (8, [.ref 1, .ref 2, .ref 4, .ref 5, .null, .null, .null, .null, .null, .null, .int 0, .int 0])) (okE_L rfl)
  rw [al_ok (HW_of o8) (fun x hx => by simp at hx; omega) (by omega) (by omega) (by omega)]
  simp only [Option.bind_some, mkc, List.set, Nat.reduceAdd]
  have o9 : OKA 7 _ := OKA.mono_up o8 (e := .inr (0, [.null, .int 0, .int 0])) (okE_L rfl)
  rw [al_ok (HW_of o9) (fun x hx => by simp at hx; omega) (by omega) (by omega) (by omega)]
  simp only [Option.bind_some, mkc, List.set, Nat.reduceAdd]
  obtain ⟨σa, a1, a2, a3, a4, a5, a6⟩ := acts_init (t0 := 6) (by omega) (by omega) (by simp [va_up]) o9
  rw [a1]
  simp only [Option.bind_some, mkc, List.set, Nat.reduceAdd]
  rw [nb_ok (by omega)]
  simp only [Option.bind_some, mkc, List.set, Nat.reduceAdd]
  have a7 : OKA 32 _ := a6
  have ha0 : σa 0 = .inr (8, [.ref 1, .ref 2, .ref 4, .ref 5, .null, .null, .null, .null, .null, .null, .int 0, .int 0]) := by rw [a5 0 (by omega) (by omega)]; simp [va_up]
  rw [pV_of (i := 0) (fs := [.ref 1, .ref 2, .ref 4, .ref 5, .null, .null, .null, .null, .null, .null, .int 0, .int 0]) (by omega) (by exact ha0) (by simp)]
  simp only [Option.bind_some, mkc, List.set, Nat.reduceAdd]
  have o10 : OKA 32 _ := OKA.up a7 (k := 0) (e := .inr (8, [.ref 1, .ref 2, .ref 4, .ref 5, .ref 6, .null, .null, .null, .null, .null, .int 0, .int 0])) (okE_L rfl)
  rw [al_ok (HW_of o10) (fun x hx => by simp at hx; omega) (by omega) (by omega) (by omega)]
  simp only [Option.bind_some, mkc, List.set, Nat.reduceAdd]
  have o11 : OKA 33 _ := OKA.mono_up o10 (e := .inl (4, 2, .inr (.inr (.inr (.inr (fun _ => none)))))) (okE_r (fun _ _ e => by cases e))
  rw [pV_of (i := 0) (fs := [.ref 1, .ref 2, .ref 4, .ref 5, .ref 6, .null, .null, .null, .null, .null, .int 0, .int 0]) (by omega) (by simp [va_up, ha0]) (by simp)]
  simp only [Option.bind_some, mkc, List.set, Nat.reduceAdd]
  have o12 : OKA 33 _ := OKA.up o11 (k := 0) (e := .inr (8, [.ref 1, .ref 2, .ref 4, .ref 5, .ref 6, .ref 32, .null, .null, .null, .null, .int 0, .int 0])) (okE_L rfl)
  rw [al_ok (HW_of o12) (fun x hx => by simp at hx; omega) (by omega) (by omega) (by omega)]
  simp only [Option.bind_some, mkc, List.set, Nat.reduceAdd]
  have o13 : OKA 34 _ := OKA.mono_up o12 (e := .inr (1, [.null, .int 0, .int 0, .int 0, .int 0, .int 0])) (okE_L rfl)
  rw [al_ok (HW_of o13) (fun x hx => by simp at hx; omega) (by omega) (by omega) (by omega)]
  simp only [Option.bind_some, mkc, List.set, Nat.reduceAdd]
  obtain ⟨q1, q2⟩ := asker_init (t0 := 33) (by omega) (by omega) (by simp [va_up]) o13
  rw [q1]
  simp only [Option.bind_some, mkc, List.set, Nat.reduceAdd]
  rw [nb_ok (by omega)]
  simp only [Option.bind_some, mkc, List.set, Nat.reduceAdd]
  have q3 : OKA 35 _ := q2
  rw [pV_of (i := 0) (fs := [.ref 1, .ref 2, .ref 4, .ref 5, .ref 6, .ref 32, .null, .null, .null, .null, .int 0, .int 0]) (by omega) (by simp [va_up, ha0]) (by simp)]
  simp only [Option.bind_some, mkc, List.set, Nat.reduceAdd]
  have o14 : OKA 35 _ := OKA.up q3 (k := 0) (e := .inr (8, [.ref 1, .ref 2, .ref 4, .ref 5, .ref 6, .ref 32, .ref 33, .null, .null, .null, .int 0, .int 0])) (okE_L rfl)
  obtain ⟨σr, c1, s1, r1, rc, rs, r2, r3, r4, r5⟩ := rows_loop (v0 := 0) (a := 1) (N0 := 35) (fs := [.ref 1, .ref 2, .ref 4, .ref 5, .ref 6, .ref 32, .ref 33, .null, .null, .null, .int 0, .int 0]) (by omega) (by omega) (by omega) rfl 8 fu 0 34 280 _ (by omega) (by show _ < 20000; omega) (by simp [va_up]) (by rw [rA_0]; simp [va_up]; rw [a5 1 (by omega) (by omega)]; simp [va_up]) o14 (by omega) (by omega)
  rw [show (nI 0) = 0 from rfl] at r1
  simp only [Nat.mul_zero, Nat.add_zero, Nat.reduceAdd] at r1
  rw [r1]
  simp only [Option.bind_some, mkc, List.set, Nat.reduceAdd]
  obtain ⟨σi, c2, s2, i1, i2, i3, i4, i5⟩ := imgs_loop (v0 := 0) (a := 32) (N0 := 51) (fs := [.ref 1, .ref 2, .ref 4, .ref 5, .ref 6, .ref 32, .ref 33, .null, .null, .null, .int 0, .int 0]) (by omega) (by omega) (by omega) rfl 2 fu 0 c1 s1 σr (by omega) (by show _ < 20000; omega) (by rw [r4 0 (by omega) (by omega)]; simp [va_up]) (by rw [r4 32 (by omega) (by omega), rA_0]; simp [va_up]) r5 (by omega) (by omega)
  rw [show (nI 0) = 0 from rfl] at i1
  simp only [Nat.add_zero, Nat.reduceAdd] at i1
  rw [i1]
  simp only [Option.bind_some, mkc, List.set, Nat.reduceAdd]
  refine ⟨σi, rfl, fun i hi => ?_, i5⟩
  by_cases c1 : i = 32
  · subst c1; rw [i2]; unfold cCel rA; simp
  by_cases c2 : 51 ≤ i
  · rw [i3 i (by omega) (by omega), u0_n (by omega)]
    rcases (show i = 51 ∨ i = 52 by omega) with rfl | rfl <;> rfl
  rw [i4 i c1 (by omega)]
  by_cases c3 : i = 1
  · subst c3; rw [r2]; rfl
  by_cases c4 : 35 ≤ i
  · by_cases co : i % 2 = 1
    · obtain ⟨j, rfl⟩ : ∃ j, i = 35 + 2 * j := ⟨(i - 35) / 2, by omega⟩
      rw [(r3 j (by omega) (by omega)).1]
      have e0 : u0 (35 + 2 * j) 0 = -1 := if_pos ⟨by omega, by omega, co, rfl⟩
      have e1 : u0 (35 + 2 * j) 1 = 0 := if_neg (by omega)
      unfold cCel rwO
      rw [if_neg (by omega), if_neg (by omega), if_neg (by omega), if_neg (by omega), if_neg (by omega), if_neg (by omega), if_neg (by omega), if_neg (by omega), if_neg (by omega), if_pos (by omega), if_pos co, e0, e1]
    · obtain ⟨j, rfl⟩ : ∃ j, i = 35 + 2 * j + 1 := ⟨(i - 36) / 2, by omega⟩
      rw [(r3 j (by omega) (by omega)).2, u0_n (by omega)]
      unfold cCel rwI
      rw [if_neg (by omega), if_neg (by omega), if_neg (by omega), if_neg (by omega), if_neg (by omega), if_neg (by omega), if_neg (by omega), if_neg (by omega), if_neg (by omega), if_pos (by omega), if_neg co]
  rw [r4 i c3 (by omega), u0_n (by omega)]
  by_cases c5 : 8 ≤ i ∧ i < 32
  · have e : σa i = bC (fun _ => 0) := a4 i (by omega) (by omega)
    unfold va_up cCel
    rw [if_neg (by omega), if_neg (by omega), if_neg (by omega), if_neg (by omega), if_neg (by omega), if_neg (by omega), if_neg (by omega), e, if_neg (by omega), if_neg (by omega), if_neg (by omega), if_neg (by omega), if_neg (by omega), if_neg (by omega), if_neg (by omega), if_neg (by omega), if_neg (by omega), if_neg (by omega)]
  rcases (show i = 0 ∨ i = 2 ∨ i = 3 ∨ i = 4 ∨ i = 5 ∨ i = 6 ∨ i = 7 ∨ i = 33 ∨ i = 34 by omega) with rfl | rfl | rfl | rfl | rfl | rfl | rfl | rfl | rfl
  · rfl
  · show σa 2 = _
    rw [a5 2 (by omega) (by omega)]; rfl
  · show σa 3 = _
    rw [a5 3 (by omega) (by omega)]; rfl
  · show σa 4 = _
    rw [a5 4 (by omega) (by omega)]; rfl
  · show σa 5 = _
    rw [a5 5 (by omega) (by omega)]; rfl
  · show σa 6 = _
    rw [a2]; rfl
  · show σa 7 = _
    rw [a3]; unfold cCel rA; simp
  · rfl
  · rfl
