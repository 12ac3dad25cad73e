/-! what holds of the state is kept -/
theorem VA.mono {m m' : Nat} {s : AS} (h : VA m s) (hm : m ≤ m') : VA m' s := by
  obtain ⟨h1, h2, h3, h4, h5, h6, h7⟩ := h
  exact ⟨h1, h2, h3.mono hm, ⟨h4.1, fun j hj => ⟨(h4.2 j hj).1.mono hm, (h4.2 j hj).2⟩⟩, fun k hk b e => ⟨(h5 k hk b e).1.mono hm, (h5 k hk b e).2⟩, h6, h7⟩
theorem VA.fnd {m : Nat} {s : AS} (h : VA m s) (v : Int32) : VA m (s.fnd v) := h
theorem VA.rws {m : Nat} {s : AS} (h : VA m s) {l : Nat → Int32} {z : Nat → Nat} {it : Nat → Nat → Int32} (hl : ∀ k, k < 8 → (l k = -1 ∨ l k = 0 ∨ l k = 1 ∨ l k = 2) ∧ z k ≤ 40) : VA m (s.rws l z it) := ⟨hl, h.2⟩
theorem va_row {m : Nat} {s : AS} (h : VA m s) (r l n : Int32) : VA m (o_row s r l n).2 := by
  unfold o_row
  by_cases c1 : 0 ≤ r ∧ r ≤ 7
  · rw [if_pos c1]
    by_cases c2 : 0 ≤ l ∧ l ≤ 2
    · rw [if_pos c2]
      by_cases c3 : n ≤ 40
      · rw [if_pos c3]
        by_cases c4 : 0 ≤ n
        · rw [if_pos c4]
          obtain ⟨w, hw, rfl⟩ := i2 c2
          obtain ⟨q, hq, rfl⟩ := ni_of (n := 40) (by omega) c4 c3
          refine h.rws (fun k hk => ?_)
          by_cases e : k = nt r
          · subst e
            rw [vup_s, vup_s, nt_nI (by omega)]
            refine ⟨?_, hq⟩
            rcases (show w = 0 ∨ w = 1 ∨ w = 2 by omega) with rfl | rfl | rfl
            · exact Or.inr (Or.inl rfl)
            · exact Or.inr (Or.inr (Or.inl rfl))
            · exact Or.inr (Or.inr (Or.inr rfl))
          · rw [vup_n e, vup_n e]; exact h.1 k hk
        · rw [if_neg c4]; exact h
      · rw [if_neg c3]; exact h
    · rw [if_neg c2]; exact h
  · rw [if_neg c1]; exact h
theorem va_set {m : Nat} {s : AS} (h : VA m s) (r i v : Int32) : VA m (o_set s r i v).2 := by
  unfold o_set
  repeat' split
  all_goals first | exact h | exact h.rws h.1
theorem va_copy {m : Nat} {s : AS} (h : VA m s) (x i y j n : Int32) : VA m (o_copy s x i y j n).2 := by
  unfold o_copy
  repeat' split
  all_goals first | exact h | exact h.rws h.1
theorem va_drop {m : Nat} {s : AS} (h : VA m s) (r : Int32) : VA m (o_drop s r).2 := by
  unfold o_drop
  repeat' split
  · exact h
  · refine h.rws (fun k hk => ?_)
    by_cases e : k = nt r
    · subst e; rw [vup_s]; exact ⟨Or.inl rfl, (h.1 _ hk).2⟩
    · rw [vup_n e]; exact h.1 k hk
  · exact h
theorem va_feed {m : Nat} {s : AS} (h : VA m s) (x : Int32) : VA m (o_feed s x).2 := by
  unfold o_feed
  by_cases c : 0 ≤ x ∧ x ≤ 255
  · rw [if_pos c]
    by_cases c2 : s.tl = 60
    · rw [if_pos c2]; exact h
    · rw [if_neg c2]
      obtain ⟨y, hy, rfl⟩ := ni_of (n := 255) (by omega) c.1 c.2
      obtain ⟨h1, h2, h3⟩ := h
      refine ⟨h1, ⟨by show s.tl + 1 ≤ 60; have := h2.1; omega, fun j hj => ?_⟩, h3⟩
      show va_up s.tb s.tl (nt (nI y)) j < 256
      by_cases e : j = s.tl
      · subst e; rw [vup_s, nt_nI (by omega)]; omega
      · rw [vup_n e]; exact h2.2 j (by have : j < s.tl + 1 := hj; omega)
  · rw [if_neg c]; exact h
theorem va_board {m : Nat} {s : AS} (h : VA m s) : VA m (o_board s).2 := by
  unfold o_board
  obtain ⟨h1, h2, h3, h4, h5, h6, h7⟩ := h
  cases e : pBoard s with
  | inl x =>
    obtain ⟨w, p⟩ := x
    exact ⟨h1, ⟨Nat.zero_le _, fun j hj => absurd hj (Nat.not_lt_zero j)⟩, h3, h4, h5, h6, h7⟩
  | inr b =>
    obtain ⟨v1, v2⟩ := pBoard_VB e
    exact ⟨h1, ⟨Nat.zero_le _, fun j hj => absurd hj (Nat.not_lt_zero j)⟩, v1.mono (Nat.zero_le _), ⟨Nat.zero_le _, fun j hj => absurd hj (Nat.not_lt_zero j)⟩, h5, h6, fun _ => rfl⟩
theorem va_psh {m : Nat} {s : AS} (h : VA m s) (h0 : s.bd ≠ noB) : pshN s ≤ 24 ∧ ∀ j, j < pshN s → VB m (pshC s j) ∧ pshC s j ≠ noB := by
  obtain ⟨_, _, h3, h4, _⟩ := h
  have h24 := h4.1
  unfold pshN pshC
  by_cases c : s.na = 24
  · rw [if_pos c, if_pos c]
    refine ⟨Nat.le_refl _, fun j hj => ?_⟩
    show VB m (if j = 23 then s.bd else s.ac (j + 1)) ∧ (if j = 23 then s.bd else s.ac (j + 1)) ≠ noB
    by_cases e : j = 23
    · rw [if_pos e]; exact ⟨h3, h0⟩
    · rw [if_neg e]; exact h4.2 (j + 1) (by omega)
  · rw [if_neg c, if_neg c]
    refine ⟨by omega, fun j hj => ?_⟩
    by_cases e : j = s.na
    · subst e; rw [vup_s]; exact ⟨h3, h0⟩
    · rw [vup_n e]; exact h4.2 j (by omega)
theorem va_brd {m : Nat} {s : AS} (h : VA m s) {bd : AB} {n : Nat} {c : Nat → AB} (hb : VB (m + 1) bd) (hn : n ≤ 24 ∧ ∀ j, j < n → VB (m + 1) (c j) ∧ c j ≠ noB) (h0 : bd = noB → n = 0) : VA (m + 1) (s.brd bd n c) := by
  obtain ⟨h1, h2, h3, h4, h5, h6, h7⟩ := h.mono (Nat.le_succ m)
  exact ⟨h1, h2, hb, hn, h5, h6, h0⟩
theorem psh1 {m : Nat} {s : AS} (h : VA m s) (h0 : s.bd ≠ noB) : pshN s ≤ 24 ∧ ∀ j, j < pshN s → VB (m + 1) (pshC s j) ∧ pshC s j ≠ noB := by
  obtain ⟨a, b⟩ := va_psh h h0
  exact ⟨a, fun j hj => ⟨(b j hj).1.mono (Nat.le_succ m), (b j hj).2⟩⟩
theorem va_pt {m : Nat} {b : AB} (h : VB m b) (h0 : b ≠ noB) {d q M : Nat} (hd : d < b.D) (hq : q < b.P) (hM : M ≤ m + 1) : VB (m + 1) (b.P, b.H, b.D, M, b.kd, va_up b.pg d q) ∧ (b.P, b.H, b.D, M, b.kd, va_up b.pg d q) ≠ noB := by
  rcases h with e | ⟨h1, h2, h3, h4, h5, h6, h7, h8⟩
  · exact absurd e h0
  · refine ⟨Or.inr ⟨h1, h2, h3, h4, h5, hM, fun e he => ?_, fun e he => ?_⟩, fun e => ?_⟩
    · obtain ⟨a1, a2, a3⟩ := h7 e he
      refine ⟨a1, a2, ?_⟩
      show va_up b.pg d q e < b.P
      by_cases c : e = d
      · subst c; rw [vup_s]; exact hq
      · rw [vup_n c]; exact a3
    · obtain ⟨a1, a2⟩ := h8 e he
      refine ⟨a1, ?_⟩
      show va_up b.pg d q e = 0
      have he : b.D ≤ e := he
      rw [vup_n (by omega)]; exact a2
    · have : b.P = 0 := congrArg Prod.fst e
      omega
theorem va_move {m : Nat} {s : AS} (h : VA m s) (p q : Int32) : VA (m + 1) (o_move s p q).2 := by
  have hm := h.mono (Nat.le_succ m)
  have hV := h.2.2.1
  obtain ⟨_, h6, hP, _, hM, _⟩ := hV.d4
  unfold o_move
  by_cases c1 : isP s p
  · rw [if_pos c1]
    by_cases c2 : isP s q
    · rw [if_pos c2]
      by_cases c3 : p = q
      · rw [if_pos c3]; exact hm
      · rw [if_neg c3]
        by_cases c4 : mvr s.bd.H s.bd.D s.bd.kd (stx s.bd) (nt p) (nt q) = 6
        · rw [if_pos c4]; exact hm
        · rw [if_neg c4]
          obtain ⟨x, hx, rfl⟩ := ofR (by omega) c1
          obtain ⟨y, hy, rfl⟩ := ofR (by omega) c2
          have hle := mvr_le s.bd.H s.bd.D s.bd.kd (stx s.bd) (nt (nI x)) (nt (nI y))
          have h0 : s.bd ≠ noB := nb_ne (by omega)
          obtain ⟨d1, _⟩ := mvr_D h6 (show mvr s.bd.H s.bd.D s.bd.kd (stx s.bd) (nt (nI x)) (nt (nI y)) < 6 by omega)
          obtain ⟨a1, a2⟩ := va_pt hV h0 (q := nt (nI y)) (M := s.bd.M + 1) d1 (by rw [nt_nI (by omega)]; exact hy) (by omega)
          exact va_brd h a1 (psh1 h h0) (fun e => absurd e a2)
    · rw [if_neg c2]; exact hm
  · rw [if_neg c1]; exact hm
theorem vap_put {m : Nat} {s : AS} (h : VA m s) (d p : Int32) : VA (m + 1) (o_put s d p).2 := by
  have hm := h.mono (Nat.le_succ m)
  have hV := h.2.2.1
  obtain ⟨_, h6, hP, _, hM, _⟩ := hV.d4
  unfold o_put
  by_cases c1 : isD s d
  · rw [if_pos c1]
    by_cases c2 : isP s p
    · rw [if_pos c2]
      by_cases c3 : nI (s.bd.pg (nt d)) = p
      · rw [if_pos c3]; exact hm
      · rw [if_neg c3]
        obtain ⟨x, hx, rfl⟩ := ofR (by omega) c1
        obtain ⟨y, hy, rfl⟩ := ofR (by omega) c2
        have h0 : s.bd ≠ noB := nb_ne (by omega)
        obtain ⟨a1, a2⟩ := va_pt hV h0 (d := nt (nI x)) (q := nt (nI y)) (M := s.bd.M) (by rw [nt_nI (by omega)]; exact hx) (by rw [nt_nI (by omega)]; exact hy) (by omega)
        exact va_brd h a1 (psh1 h h0) (fun e => absurd e a2)
    · rw [if_neg c2]; exact hm
  · rw [if_neg c1]; exact hm
theorem va_high {m : Nat} {s : AS} (h : VA m s) (v : Int32) : VA (m + 1) (o_high s v).2 := by
  have hm := h.mono (Nat.le_succ m)
  have hV := h.2.2.1
  unfold o_high
  by_cases c1 : s.bd.P = 0
  · rw [if_pos c1]; exact hm
  · rw [if_neg c1]
    by_cases c2 : 1 ≤ v ∧ v ≤ 6
    · rw [if_pos c2]
      have h0 : s.bd ≠ noB := nb_ne c1
      obtain ⟨x, hx, rfl⟩ := ni_of (n := 6) (by omega) (show (0 : Int32) ≤ v by have := c2.1; rw [Int32.le_iff_toInt_le] at this ⊢; exact Int.le_trans (by decide) this) c2.2
      have hx1 : 1 ≤ x := by have := c2.1; rw [show (1 : Int32) = nI 1 from rfl, nI_leI (by omega) (by omega)] at this; exact this
      rw [nt_nI (by omega)]
      have hb : VB (m + 1) (hgB s.bd x) ∧ hgB s.bd x ≠ noB := by
        rcases hV with e | ⟨h1, h2, h3, h4, h5, h6, h7, h8⟩
        · exact absurd e h0
        · exact ⟨Or.inr ⟨h1, hx1, hx, h4, h5, by show s.bd.M ≤ m + 1; omega, h7, h8⟩, fun e => c1 (congrArg Prod.fst e)⟩
      exact va_brd h hb.1 (psh1 h h0) (fun e => absurd e hb.2)
    · rw [if_neg c2]; exact hm
theorem va_undo {m : Nat} {s : AS} (h : VA m s) : VA (m + 1) (o_undo s).2 := by
  have hm := h.mono (Nat.le_succ m)
  unfold o_undo
  by_cases c : s.na = 0
  · rw [if_pos c]; exact hm
  · rw [if_neg c]
    obtain ⟨b1, b2⟩ := hm.2.2.2.1
    exact va_brd h (b2 (s.na - 1) (by omega)).1 ⟨by omega, fun j hj => b2 j (by omega)⟩ (fun e => absurd e (b2 (s.na - 1) (by omega)).2)
theorem va_image {m : Nat} {s : AS} (h : VA m s) (k : Int32) : VA m (o_image s k).2 := by
  unfold o_image
  by_cases c : 0 ≤ k ∧ k ≤ 1
  · rw [if_pos c]
    by_cases c2 : s.bd.P = 0
    · rw [if_pos c2]; exact h
    · rw [if_neg c2]
      obtain ⟨h1, h2, h3, h4, h5, h6, h7⟩ := h
      refine ⟨h1, h2, h3, h4, fun i hi b e => ?_, h6, h7⟩
      have e : va_up s.im (nt k) (some s.bd) i = some b := e
      by_cases ei : i = nt k
      · subst ei; rw [vup_s] at e; obtain rfl := Option.some.inj e; exact ⟨h3, nb_ne c2⟩
      · rw [vup_n ei] at e; exact h5 i hi b e
  · rw [if_neg c]; exact h
theorem va_restore {m : Nat} {s : AS} (h : VA m s) (k : Int32) : VA (m + 1) (o_restore s k).2 := by
  have hm := h.mono (Nat.le_succ m)
  unfold o_restore
  by_cases c : 0 ≤ k ∧ k ≤ 1
  · rw [if_pos c]
    obtain ⟨x, hx, rfl⟩ := i1 c
    rw [nt_nI (by omega)]
    cases e : s.im x with
    | none => exact hm
    | some b =>
      obtain ⟨a1, a2⟩ := hm.2.2.2.2.1 x hx b e
      exact va_brd h a1 ⟨Nat.zero_le _, fun j hj => absurd hj (Nat.not_lt_zero j)⟩ (fun e => absurd e a2)
  · rw [if_neg c]; exact hm
theorem va_as {m : Nat} {s : AS} (h : VA m s) (d k : Int32) : VA m (o_as s d k).2 := by
  unfold o_as
  repeat' split
  all_goals exact h
theorem va_ask {m : Nat} {s : AS} (h : VA m s) (d w : Int32) : VA m (o_ask s d w).2 := by
  unfold o_ask
  split
  · split
    · obtain ⟨h1, h2, h3, h4, h5, h6, h7⟩ := h
      refine ⟨h1, h2, h3, h4, h5, ?_, h7⟩
      show (askT (s.bd.kd (nt d)) (nt w)).length ≤ 16
      unfold askT
      repeat' split
      all_goals decide
    · exact h
  · exact h
theorem va_judge {m : Nat} {s : AS} (h : VA m s) (r i n : Int32) : VA m (o_judge s r i n).2 := by
  unfold o_judge
  repeat' split
  all_goals exact h
theorem va_fits {m : Nat} {s : AS} (h : VA m s) (d r i n w : Int32) : VA m (o_fits s d r i n w).2 := by
  unfold o_fits
  repeat' split
  all_goals exact h
theorem va_least {m : Nat} {s : AS} (h : VA m s) (r i k : Int32) : VA m (o_least s r i k).2 := by
  unfold o_least
  by_cases c1 : s.bd.P = 0
  · rw [if_pos c1]; exact h
  rw [if_neg c1]
  by_cases c2 : 0 ≤ r ∧ r ≤ 7
  · rw [if_pos c2]
    by_cases c3 : -1 ≤ k
    · rw [if_pos c3]
      by_cases c4 : wrg s (nt r) i (nI s.bd.D) = 0
      · rw [if_pos c4]; exact h
      · rw [if_neg c4]; exact h
    · rw [if_neg c3]; exact h
  · rw [if_neg c2]; exact h
theorem va_ways {m : Nat} {s : AS} (h : VA m s) (r i k : Int32) : VA m (o_ways s r i k).2 := by
  unfold o_ways
  by_cases c1 : s.bd.P = 0
  · rw [if_pos c1]; exact h
  rw [if_neg c1]
  by_cases c2 : 0 ≤ r ∧ r ≤ 7
  · rw [if_pos c2]
    by_cases c3 : 0 ≤ k ∧ k ≤ 12
    · rw [if_pos c3]
      by_cases c4 : wrg s (nt r) i (nI s.bd.D) = 0
      · rw [if_pos c4]; exact h
      · rw [if_neg c4]; exact h
    · rw [if_neg c3]; exact h
  · rw [if_neg c2]; exact h
