/-! acts and boards: what the calls do -/
abbrev isP (s : AS) (x : Int32) : Prop := 0 ≤ x ∧ x < nI s.bd.P
abbrev isD (s : AS) (x : Int32) : Prop := 0 ≤ x ∧ x < nI s.bd.D
/-- a disc of a board goes to a peg: by a move, by hand; another height -/
def mvB (b : AB) (d q : Nat) : AB := (b.P, b.H, b.D, b.M + 1, b.kd, va_up b.pg d q)
def ptB (b : AB) (d q : Nat) : AB := (b.P, b.H, b.D, b.M, b.kd, va_up b.pg d q)
def hgB (b : AB) (v : Nat) : AB := (b.P, v, b.D, b.M, b.kd, b.pg)
def o_move (s : AS) (p q : Int32) : Int32 × AS :=
  if isP s p then (if isP s q then (if p = q then (-1000001, s) else if mvr s.bd.H s.bd.D s.bd.kd (stx s.bd) (nt p) (nt q) = 6 then (-1000002, s) else (nI (mvr s.bd.H s.bd.D s.bd.kd (stx s.bd) (nt p) (nt q)), s.brd (mvB s.bd (mvr s.bd.H s.bd.D s.bd.kd (stx s.bd) (nt p) (nt q)) (nt q)) (pshN s) (pshC s))) else (-1000001, s)) else (-1000001, s)
def o_put (s : AS) (d p : Int32) : Int32 × AS :=
  if isD s d then (if isP s p then (if nI (s.bd.pg (nt d)) = p then (-1000002, s) else (nI (s.bd.pg (nt d)), s.brd (ptB s.bd (nt d) (nt p)) (pshN s) (pshC s))) else (-1000001, s)) else (-1000001, s)
def o_high (s : AS) (v : Int32) : Int32 × AS :=
  if s.bd.P = 0 then (-1000002, s) else if 1 ≤ v ∧ v ≤ 6 then (nI s.bd.H, s.brd (hgB s.bd (nt v)) (pshN s) (pshC s)) else (-1000001, s)
def o_undo (s : AS) : Int32 × AS := if s.na = 0 then (-1000002, s) else (nI (s.na - 1), s.brd (s.ac (s.na - 1)) (s.na - 1) s.ac)
def o_image (s : AS) (k : Int32) : Int32 × AS := if 0 ≤ k ∧ k ≤ 1 then (if s.bd.P = 0 then (-1000002, s) else (1, s.img (va_up s.im (nt k) (some s.bd)))) else (-1000001, s)
def o_restore (s : AS) (k : Int32) : Int32 × AS := if 0 ≤ k ∧ k ≤ 1 then (match s.im (nt k) with
  | none => (-1000002, s)
  | some x => (1, s.brd x 0 s.ac)) else (-1000001, s)
def o_kind (s : AS) (d : Int32) : Int32 := if isD s d then nI (s.bd.kd (nt d)) else -1000001
/-- whether a kind is another one, too -/
def isOf (kind as : Nat) : Bool := as == 0 || as == kind || (as == 1 && (kind == 2 || kind == 3)) || (as == 4 && kind == 5)
def o_as (s : AS) (d k : Int32) : Int32 × AS := if isD s d then (if 0 ≤ k ∧ k ≤ 5 then (if isOf (s.bd.kd (nt d)) (nt k) then (d, s.fnd 0) else (-1000013, s.fnd 3)) else (-1000001, s)) else (-1000001, s)
def o_can (s : AS) : Int32 := if s.bd.P = 0 then -1000002 else nI (mms s.bd.P s.bd.H s.bd.D s.bd.kd (stx s.bd))
theorem RM.irr {f f' : Nat → Int32} {a : Nat → Nat → Int32} {s : AS} (h : RM f a s) (hf : f' 3 = f 3 ∧ f' 4 = f 4 ∧ f' 6 = f 6 ∧ f' 11 = f 11 ∧ f' 23 = f 23) : RM f' a s := by
  obtain ⟨h1, h2, h3, h4, h5, h6, h7, h8⟩ := h
  exact ⟨h1, hf.1.trans h2, ⟨hf.2.1.trans h3.1, h3.2⟩, hf.2.2.1.trans h4, h5, ⟨hf.2.2.2.1.trans h6.1, h6.2⟩, h7, ⟨hf.2.2.2.2.trans h8.1, h8.2⟩⟩
theorem ABm_pg {w : Nat → Int32} {x : AB} {d q : Nat} (h : ABm w 0 x) (hd : d < 6) : ABm (upd w (10 + d) (nI q)) 0 (ptB x d q) := by
  obtain ⟨h1, h2, h3, h4, h5⟩ := h
  refine ⟨by rw [upd_n (by omega)]; exact h1, by rw [upd_n (by omega)]; exact h2, by rw [upd_n (by omega)]; exact h3, by rw [upd_n (by omega)]; exact h4, fun e he => ⟨by rw [upd_n (by omega)]; exact (h5 e he).1, ?_⟩⟩
  show _ = nI (va_up x.pg d q e)
  by_cases c : e = d
  · subst c; rw [vup_s, show 16 * 0 + 10 + e = 10 + e by omega, upd_s]
  · rw [vup_n c, upd_n (by omega)]; exact (h5 e he).2
theorem ABm_M {w : Nat → Int32} {x : AB} {v : Nat} (h : ABm w 0 x) : ABm (upd w 3 (nI v)) 0 (x.P, x.H, x.D, v, x.kd, x.pg) := by
  obtain ⟨h1, h2, h3, h4, h5⟩ := h
  exact ⟨by rw [upd_n (by omega)]; exact h1, by rw [upd_n (by omega)]; exact h2, by rw [upd_n (by omega)]; exact h3, by rw [show 16 * 0 + 3 = 3 from rfl, upd_s], fun e he => ⟨by rw [upd_n (by omega)]; exact (h5 e he).1, by rw [upd_n (by omega)]; exact (h5 e he).2⟩⟩
theorem ABm_H {w : Nat → Int32} {x : AB} {v : Nat} (h : ABm w 0 x) : ABm (upd w 1 (nI v)) 0 (hgB x v) := by
  obtain ⟨h1, h2, h3, h4, h5⟩ := h
  exact ⟨by rw [upd_n (by omega)]; exact h1, by rw [show 16 * 0 + 1 = 1 from rfl, upd_s]; rfl, by rw [upd_n (by omega)]; exact h3, by rw [upd_n (by omega)]; exact h4, fun e he => ⟨by rw [upd_n (by omega)]; exact (h5 e he).1, by rw [upd_n (by omega)]; exact (h5 e he).2⟩⟩
section MO
variable {N m : Nat} {f : Nat → Int32} {a : Nat → Nat → Int32} {b : Nat → Nat → Int64} {s : AS} {σ : Hp}
def tolF (f : Nat → Int32) (w : Nat → Int32) : Nat → Int32 := upd (upd (upd f 20 (-1)) 19 0) 21 (w 1)
theorem asTold_ok (hN : 66 ≤ N) : m_X9_asTold N (MH σ f a b) 53 = some (MH σ (tolF f (a 58)) a b) := by
  unfold m_X9_asTold
  simp only [MH_rv hN, MH_f3 hN, MH_f4 hN, MH_f6 hN, MH_f7 hN, MH_f8 hN, MH_f9 hN, MH_f11 hN, MH_f16 hN, MH_f19 hN, MH_f20 hN, MH_f21 hN, MH_f23 hN, MH_r0 hN, MH_r1 hN, MH_r2 hN, MH_r5 hN, MH_r10 hN, MH_r12 hN, MH_r13 hN, MH_r14 hN, MH_r15 hN, MH_r17 hN, MH_r18 hN, MH_r22 hN, Option.bind_some]
  rw [MH_put (j := 20) hN (by omega)]
  simp only [Option.bind_some]
  rw [MH_put (j := 19) hN (by omega)]
  simp only [MH_rv hN, MH_f3 hN, MH_f4 hN, MH_f6 hN, MH_f7 hN, MH_f8 hN, MH_f9 hN, MH_f11 hN, MH_f16 hN, MH_f19 hN, MH_f20 hN, MH_f21 hN, MH_f23 hN, MH_r0 hN, MH_r1 hN, MH_r2 hN, MH_r5 hN, MH_r10 hN, MH_r12 hN, MH_r13 hN, MH_r14 hN, MH_r15 hN, MH_r17 hN, MH_r18 hN, MH_r22 hN, Option.bind_some]
  rw [show aI 0 N (MH σ (upd (upd f 20 (-1)) 19 0) a b) 58 1 = some (a 58 1) from MH_a58 (k := 1) hN (by omega)]
  simp only [Option.bind_some]
  rw [MH_put (j := 21) hN (by omega)]
  rfl
theorem tolF_n {w : Nat → Int32} {i : Nat} (h : i ≠ 19 ∧ i ≠ 20 ∧ i ≠ 21) : tolF f w i = f i := by
  unfold tolF; rw [upd_n h.2.2, upd_n h.1, upd_n h.2.1]
theorem RM.tol (h : RM f a s) : RM (tolF f (a 58)) a s := h.irr ⟨tolF_n (by decide), tolF_n (by decide), tolF_n (by decide), tolF_n (by decide), tolF_n (by decide)⟩
theorem told_of {bd : AB} (hB : ABm (a 58) 0 bd) (hV : VB m bd) : Told (tolF f (a 58)) (a 58) bd.P bd.H bd.D bd.kd := by
  obtain ⟨_, h6, hP, hH, _, hk⟩ := hV.d4
  obtain ⟨g1, g2, g3, g4, g5⟩ := hB
  refine ⟨g1, g3, hP, h6, hH, by unfold tolF; rw [upd_s]; exact g2, fun d hd => ⟨hk d, ?_⟩⟩
  have e20 : tolF f (a 58) 20 = -1 := by unfold tolF; rw [upd_n (by decide), upd_n (by decide), upd_s]
  rw [e20, if_neg]
  · have := (g5 d (by omega)).1
    rw [show 16 * 0 + 4 + d = 4 + d by omega] at this
    exact this
  · have : ∀ d, d < 6 → ¬ nI d = -1 := by decide +kernel
    exact this d (by omega)
theorem noB_P {b : AB} (h : VB m b) : b.P = 0 ↔ b = noB := by
  constructor
  · intro e
    rcases h with h | ⟨h1, _⟩
    · exact h
    · omega
  · intro e; rw [e]; rfl
theorem mo_move (hN : 66 ≤ N) (h : RM f a s) (hv : VA m s) (hm : m < 9999) (p q : Int32) : MOp N f a b (fun σ => m_X9_move N σ 53 p q) (o_move s p q).1 (o_move s p q).2 := by
  intro σ
  show ∃ f' a' b', m_X9_move N (MH σ f a b) 53 p q = _ ∧ _
  unfold m_X9_move o_move
  simp only [MH_rv hN, MH_f3 hN, MH_f4 hN, MH_f6 hN, MH_f7 hN, MH_f8 hN, MH_f9 hN, MH_f11 hN, MH_f16 hN, MH_f19 hN, MH_f20 hN, MH_f21 hN, MH_f23 hN, MH_r0 hN, MH_r1 hN, MH_r2 hN, MH_r5 hN, MH_r10 hN, MH_r12 hN, MH_r13 hN, MH_r14 hN, MH_r15 hN, MH_r17 hN, MH_r18 hN, MH_r22 hN, Option.bind_some, isPeg_ok hN h hv, ite10]
  have hV := hv.2.2.1
  obtain ⟨h4, h6, hP4, _, hM, _⟩ := hV.d4
  by_cases c1 : isP s p
  · rw [if_pos c1, if_pos c1]
    by_cases c2 : isP s q
    · rw [if_pos c2, if_pos c2]
      by_cases c3 : p = q
      · rw [if_pos c3, if_pos c3]; exact ⟨f, a, b, rfl, h⟩
      · rw [if_neg c3, if_neg c3, asTold_ok hN]
        obtain ⟨u, hu, rfl⟩ := lt_of (by omega) c1
        obtain ⟨w, hw, rfl⟩ := lt_of (by omega) c2
        have hT := told_of (f := f) h.2.2.2.2.1 hV
        simp only [Option.bind_some]
        rw [state_ok hN h.2.2.2.2.1 hV (by omega)]
        simp only [Option.bind_some]
        rw [mover_ok hN hT (stx_lt hV) (by omega) (by omega), nt_nI (by omega), nt_nI (by omega)]
        simp only [Option.bind_some]
        have hd6 := mvr_le s.bd.H s.bd.D s.bd.kd (stx s.bd) u w
        generalize hde : mvr s.bd.H s.bd.D s.bd.kd (stx s.bd) u w = d at *
        by_cases c4 : d = 6
        · subst c4
          rw [if_pos (show nI 6 = 6 from rfl), if_pos rfl]
          exact ⟨_, a, b, rfl, h.tol⟩
        · rw [if_neg (show ¬ nI d = 6 from ni_ne (b := 6) (by omega) (by omega) c4), if_neg c4]
          simp only [MH_rv hN, MH_f3 hN, MH_f4 hN, MH_f6 hN, MH_f7 hN, MH_f8 hN, MH_f9 hN, MH_f11 hN, MH_f16 hN, MH_f19 hN, MH_f20 hN, MH_f21 hN, MH_f23 hN, MH_r0 hN, MH_r1 hN, MH_r2 hN, MH_r5 hN, MH_r10 hN, MH_r12 hN, MH_r13 hN, MH_r14 hN, MH_r15 hN, MH_r17 hN, MH_r18 hN, MH_r22 hN, Option.bind_some]
          rw [show aI 0 N (MH σ (tolF f (a 58)) a b) 58 3 = some (a 58 3) from MH_a58 (k := 3) hN (by omega)]
          simp only [Option.bind_some]
          rw [show a 58 3 = nI s.bd.M from h.2.2.2.2.1.2.2.2.1, if_neg (show ¬ nI s.bd.M = 9999 from ni_ne (b := 9999) (by omega) (by omega) (by omega))]
          obtain ⟨f', a', k1, k2, k3, k4, k5, k6, k7⟩ := known_ok (σ := σ) (b := b) hN h.tol hv
          rw [k1]
          simp only [MH_rv hN, MH_f3 hN, MH_f4 hN, MH_f6 hN, MH_f7 hN, MH_f8 hN, MH_f9 hN, MH_f11 hN, MH_f16 hN, MH_f19 hN, MH_f20 hN, MH_f21 hN, MH_f23 hN, MH_r0 hN, MH_r1 hN, MH_r2 hN, MH_r5 hN, MH_r10 hN, MH_r12 hN, MH_r13 hN, MH_r14 hN, MH_r15 hN, MH_r17 hN, MH_r18 hN, MH_r22 hN, Option.bind_some]
          rw [show (10 : Int32) = nI 10 from rfl, nI_add, MH_s58 hN (by omega)]
          simp only [MH_rv hN, MH_f3 hN, MH_f4 hN, MH_f6 hN, MH_f7 hN, MH_f8 hN, MH_f9 hN, MH_f11 hN, MH_f16 hN, MH_f19 hN, MH_f20 hN, MH_f21 hN, MH_f23 hN, MH_r0 hN, MH_r1 hN, MH_r2 hN, MH_r5 hN, MH_r10 hN, MH_r12 hN, MH_r13 hN, MH_r14 hN, MH_r15 hN, MH_r17 hN, MH_r18 hN, MH_r22 hN, Option.bind_some]
          rw [show (3 : Int32) = nI 3 from rfl, MH_a58 hN (by omega)]
          simp only [Option.bind_some]
          rw [MH_s58 hN (by omega)]
          refine ⟨_, _, b, rfl, ?_⟩
          have hff : ∀ i, i = 3 ∨ i = 4 ∨ i = 6 ∨ i = 23 → f' i = f i := fun i hi => by rw [k2 i (by omega), tolF_n (by omega)]
          have e3 : (va_up a' 58 (upd (a' 58) (10 + d) (nI w))) 58 3 = nI s.bd.M := by rw [vup_s, upd_n (by omega)]; exact k5.2.2.2.1
          rw [e3, nI_1, vup_vup, vup_s]
          refine h.brd ⟨hff 3 (by omega), hff 4 (by omega), hff 6 (by omega), hff 23 (by omega)⟩ (fun i hi => by rw [vup_n (by omega), k3 i (by omega)]) ?_ k4 (fun j hj => ?_) (fun k hk x hx => ?_)
          · rw [vup_s]
            exact ABm_M (ABm_pg k5 (by omega))
          · rw [vup_s]
            exact ABm_eq (k6 j hj) (fun t ht => by rw [upd_n (by omega), upd_n (by omega)])
          · rw [vup_s]
            exact ABm_eq (k7 k hk x hx) (fun t ht => by rw [upd_n (by omega), upd_n (by omega)])
    · rw [if_neg c2, if_neg c2]; exact ⟨f, a, b, rfl, h⟩
  · rw [if_neg c1, if_neg c1]; exact ⟨f, a, b, rfl, h⟩
theorem mo_put (hN : 66 ≤ N) (h : RM f a s) (hv : VA m s) (d p : Int32) : MOp N f a b (fun σ => m_X9_put N σ 53 d p) (o_put s d p).1 (o_put s d p).2 := by
  intro σ
  show ∃ f' a' b', m_X9_put N (MH σ f a b) 53 d p = _ ∧ _
  unfold m_X9_put o_put
  simp only [MH_rv hN, MH_f3 hN, MH_f4 hN, MH_f6 hN, MH_f7 hN, MH_f8 hN, MH_f9 hN, MH_f11 hN, MH_f16 hN, MH_f19 hN, MH_f20 hN, MH_f21 hN, MH_f23 hN, MH_r0 hN, MH_r1 hN, MH_r2 hN, MH_r5 hN, MH_r10 hN, MH_r12 hN, MH_r13 hN, MH_r14 hN, MH_r15 hN, MH_r17 hN, MH_r18 hN, MH_r22 hN, Option.bind_some, isPeg_ok hN h hv, isDisc_ok hN h hv, ite10]
  have hV := hv.2.2.1
  obtain ⟨h4, h6, hP4, _, hM, _⟩ := hV.d4
  by_cases c1 : isD s d
  · rw [if_pos c1, if_pos c1]
    by_cases c2 : isP s p
    · rw [if_pos c2, if_pos c2]
      obtain ⟨u, hu, rfl⟩ := lt_of (by omega) c1
      obtain ⟨w, hw, rfl⟩ := lt_of (by omega) c2
      have e1 : a 58 (10 + u) = nI (s.bd.pg u) := by
        have := (h.2.2.2.2.1.2.2.2.2 u (by omega)).2
        rw [show 16 * 0 + 10 + u = 10 + u by omega] at this
        exact this
      rw [show (10 : Int32) = nI 10 from rfl, nI_add, MH_a58 hN (by omega), nt_nI (by omega), nt_nI (by omega)]
      simp only [Option.bind_some]
      rw [e1]
      by_cases c3 : nI (s.bd.pg u) = nI w
      · rw [if_pos c3, if_pos c3]; exact ⟨f, a, b, rfl, h⟩
      · rw [if_neg c3, if_neg c3]
        obtain ⟨f', a', k1, k2, k3, k4, k5, k6, k7⟩ := known_ok (σ := σ) (b := b) hN h hv
        rw [k1]
        simp only [MH_rv hN, MH_f3 hN, MH_f4 hN, MH_f6 hN, MH_f7 hN, MH_f8 hN, MH_f9 hN, MH_f11 hN, MH_f16 hN, MH_f19 hN, MH_f20 hN, MH_f21 hN, MH_f23 hN, MH_r0 hN, MH_r1 hN, MH_r2 hN, MH_r5 hN, MH_r10 hN, MH_r12 hN, MH_r13 hN, MH_r14 hN, MH_r15 hN, MH_r17 hN, MH_r18 hN, MH_r22 hN, Option.bind_some]
        rw [MH_a58 hN (by omega), MH_s58 hN (by omega)]
        have e2 : a' 58 (10 + u) = nI (s.bd.pg u) := by
          have := (k5.2.2.2.2 u (by omega)).2
          rw [show 16 * 0 + 10 + u = 10 + u by omega] at this
          exact this
        simp only [Option.bind_some]
        rw [e2]
        refine ⟨_, _, b, rfl, h.brd ⟨k2 3 (by omega), k2 4 (by omega), k2 6 (by omega), k2 23 (by omega)⟩ (fun i hi => by rw [vup_n (by omega), k3 i (by omega)]) ?_ k4 (fun j hj => ?_) (fun k hk x hx => ?_)⟩
        · rw [vup_s]; exact ABm_pg k5 (by omega)
        · rw [vup_s]; exact ABm_eq (k6 j hj) (fun t ht => by rw [upd_n (by omega)])
        · rw [vup_s]; exact ABm_eq (k7 k hk x hx) (fun t ht => by rw [upd_n (by omega)])
    · rw [if_neg c2, if_neg c2]; exact ⟨f, a, b, rfl, h⟩
  · rw [if_neg c1, if_neg c1]; exact ⟨f, a, b, rfl, h⟩
theorem ite01 {α : Type} {c : Prop} [Decidable c] {x y : α} : (if (if c then (0 : Int32) else 1) = 0 then x else y) = if c then x else y := by
  by_cases h : c
  · rw [if_pos h, if_pos rfl, if_pos h]
  · rw [if_neg h, if_neg (by decide +kernel), if_neg h]
theorem mo_high (hN : 66 ≤ N) (h : RM f a s) (hv : VA m s) (v : Int32) : MOp N f a b (fun σ => m_X9_high N σ 53 v) (o_high s v).1 (o_high s v).2 := by
  intro σ
  show ∃ f' a' b', m_X9_high N (MH σ f a b) 53 v = _ ∧ _
  unfold m_X9_high o_high
  simp only [MH_rv hN, MH_f3 hN, MH_f4 hN, MH_f6 hN, MH_f7 hN, MH_f8 hN, MH_f9 hN, MH_f11 hN, MH_f16 hN, MH_f19 hN, MH_f20 hN, MH_f21 hN, MH_f23 hN, MH_r0 hN, MH_r1 hN, MH_r2 hN, MH_r5 hN, MH_r10 hN, MH_r12 hN, MH_r13 hN, MH_r14 hN, MH_r15 hN, MH_r17 hN, MH_r18 hN, MH_r22 hN, Option.bind_some, isBoard_ok hN h hv, ite01]
  by_cases c1 : s.bd.P = 0
  · rw [if_pos c1, if_pos c1]; exact ⟨f, a, b, rfl, h⟩
  · rw [if_neg c1, if_neg c1, show (1 : Int64) = (1 : Int32).toInt64 by decide +kernel, show (6 : Int64) = (6 : Int32).toInt64 by decide +kernel, i64_in]
    simp only [Option.bind_some, ite10]
    by_cases c2 : 1 ≤ v ∧ v ≤ 6
    · rw [if_pos c2, if_pos c2]
      obtain ⟨u, hu, rfl⟩ := ni_of (n := 6) (by omega) (by have := c2.1; rw [Int32.le_iff_toInt_le] at this ⊢; have e : (1 : Int32).toInt = 1 := rfl; have e2 : (0 : Int32).toInt = 0 := rfl; omega) c2.2
      obtain ⟨f', a', k1, k2, k3, k4, k5, k6, k7⟩ := known_ok (σ := σ) (b := b) hN h hv
      rw [k1, nt_nI (by omega)]
      simp only [MH_rv hN, MH_f3 hN, MH_f4 hN, MH_f6 hN, MH_f7 hN, MH_f8 hN, MH_f9 hN, MH_f11 hN, MH_f16 hN, MH_f19 hN, MH_f20 hN, MH_f21 hN, MH_f23 hN, MH_r0 hN, MH_r1 hN, MH_r2 hN, MH_r5 hN, MH_r10 hN, MH_r12 hN, MH_r13 hN, MH_r14 hN, MH_r15 hN, MH_r17 hN, MH_r18 hN, MH_r22 hN, Option.bind_some]
      rw [show aI 0 N (MH σ f' a' b) 58 1 = some (a' 58 1) from MH_a58 (k := 1) hN (by omega), show sI 0 N (MH σ f' a' b) 58 1 (nI u) = _ from MH_s58 (k := 1) hN (by omega)]
      simp only [Option.bind_some]
      rw [show a' 58 1 = nI s.bd.H from k5.2.1]
      refine ⟨_, _, b, rfl, h.brd ⟨k2 3 (by omega), k2 4 (by omega), k2 6 (by omega), k2 23 (by omega)⟩ (fun i hi => by rw [vup_n (by omega), k3 i (by omega)]) ?_ k4 (fun j hj => ?_) (fun k hk x hx => ?_)⟩
      · rw [vup_s]; exact ABm_H k5
      · rw [vup_s]; exact ABm_eq (k6 j hj) (fun t ht => by rw [upd_n (by omega)])
      · rw [vup_s]; exact ABm_eq (k7 k hk x hx) (fun t ht => by rw [upd_n (by omega)])
    · rw [if_neg c2, if_neg c2]; exact ⟨f, a, b, rfl, h⟩
theorem mo_undo (hN : 66 ≤ N) (h : RM f a s) (hv : VA m s) : MOp N f a b (fun σ => m_X9_undo N σ 53) (o_undo s).1 (o_undo s).2 := by
  intro σ
  show ∃ f' a' b', m_X9_undo N (MH σ f a b) 53 = _ ∧ _
  unfold m_X9_undo o_undo
  obtain ⟨hn24, _⟩ := hv.2.2.2.1
  obtain ⟨_, _, _, _, h5, h6, h7, _⟩ := id h
  simp only [MH_rv hN, MH_f3 hN, MH_f4 hN, MH_f6 hN, MH_f7 hN, MH_f8 hN, MH_f9 hN, MH_f11 hN, MH_f16 hN, MH_f19 hN, MH_f20 hN, MH_f21 hN, MH_f23 hN, MH_r0 hN, MH_r1 hN, MH_r2 hN, MH_r5 hN, MH_r10 hN, MH_r12 hN, MH_r13 hN, MH_r14 hN, MH_r15 hN, MH_r17 hN, MH_r18 hN, MH_r22 hN, Option.bind_some]
  rw [h6.1]
  by_cases c : s.na = 0
  · rw [if_pos (show nI s.na = 0 by rw [c]; rfl), if_pos c]; exact ⟨f, a, b, rfl, h⟩
  · obtain ⟨n, e⟩ : ∃ n, s.na = n + 1 := ⟨s.na - 1, by omega⟩
    rw [if_neg (show ¬ nI s.na = 0 from ni_ne (b := 0) (by omega) (by omega) c), if_neg c, show (16 : Int32) = nI 16 from rfl, pk_mul, Nat.mul_comm, show (0 : Int32) = nI (16 * 0) from rfl, copies_ok hN (by omega) (by omega) (by omega)]
    simp only [MH_rv hN, MH_f3 hN, MH_f4 hN, MH_f6 hN, MH_f7 hN, MH_f8 hN, MH_f9 hN, MH_f11 hN, MH_f16 hN, MH_f19 hN, MH_f20 hN, MH_f21 hN, MH_f23 hN, MH_r0 hN, MH_r1 hN, MH_r2 hN, MH_r5 hN, MH_r10 hN, MH_r12 hN, MH_r13 hN, MH_r14 hN, MH_r15 hN, MH_r17 hN, MH_r18 hN, MH_r22 hN, Option.bind_some]
    rw [h6.1, e, nI_pred, MH_put (j := 11) hN (by omega)]
    simp only [MH_rv hN, MH_f3 hN, MH_f4 hN, MH_f6 hN, MH_f7 hN, MH_f8 hN, MH_f9 hN, MH_f11 hN, MH_f16 hN, MH_f19 hN, MH_f20 hN, MH_f21 hN, MH_f23 hN, MH_r0 hN, MH_r1 hN, MH_r2 hN, MH_r5 hN, MH_r10 hN, MH_r12 hN, MH_r13 hN, MH_r14 hN, MH_r15 hN, MH_r17 hN, MH_r18 hN, MH_r22 hN, Option.bind_some]
    rw [upd_s]
    refine ⟨_, _, b, rfl, h.brd ⟨upd_n (by decide), upd_n (by decide), upd_n (by decide), upd_n (by decide)⟩ (fun i hi => vup_n (by omega)) ?_ upd_s (fun j hj => ?_) (fun k hk x hx => ?_)⟩
    · rw [vup_s]
      have := h6.2 n (by omega)
      exact cpW_in this
    · rw [vup_s]; exact cpW_out (by omega) (h6.2 j (by omega))
    · rw [vup_s]
      rcases h7 k hk with ⟨_, g⟩ | ⟨y, _, g2, g3⟩
      · rw [g] at hx; cases hx
      · rw [g2] at hx; cases hx
        exact cpW_out (by omega) g3
theorem i1 {k : Int32} (h : 0 ≤ k ∧ k ≤ 1) : ∃ u, u < 2 ∧ k = nI u := by
  obtain ⟨u, h1, h2⟩ := ni_of (n := 1) (by omega) h.1 h.2
  exact ⟨u, by omega, h2⟩
theorem mo_image (hN : 66 ≤ N) (h : RM f a s) (hv : VA m s) (k : Int32) : MOp N f a b (fun σ => m_X9_image N σ 53 k) (o_image s k).1 (o_image s k).2 := by
  intro σ
  show ∃ f' a' b', m_X9_image N (MH σ f a b) 53 k = _ ∧ _
  unfold m_X9_image o_image
  obtain ⟨hn24, _⟩ := hv.2.2.2.1
  rw [MH_rv hN, show (0 : Int64) = (0 : Int32).toInt64 by decide +kernel, show (1 : Int64) = (1 : Int32).toInt64 by decide +kernel, i64_in]
  simp only [Option.bind_some, ite10, isBoard_ok hN h hv, ite01]
  by_cases c1 : 0 ≤ k ∧ k ≤ 1
  · rw [if_pos c1, if_pos c1]
    by_cases c2 : s.bd.P = 0
    · rw [if_pos c2, if_pos c2]; exact ⟨f, a, b, rfl, h⟩
    · obtain ⟨u, hu, rfl⟩ := i1 c1
      rw [if_neg c2, if_neg c2, show (25 : Int32) = nI 25 from rfl, nI_add, show (16 : Int32) = nI 16 from rfl, pk_mul, Nat.mul_comm, show (0 : Int32) = nI (16 * 0) from rfl, copies_ok hN (by omega) (by omega) (by omega), nt_nI (by omega)]
      simp only [MH_rv hN, MH_f3 hN, MH_f4 hN, MH_f6 hN, MH_f7 hN, MH_f8 hN, MH_f9 hN, MH_f11 hN, MH_f16 hN, MH_f19 hN, MH_f20 hN, MH_f21 hN, MH_f23 hN, MH_r0 hN, MH_r1 hN, MH_r2 hN, MH_r5 hN, MH_r10 hN, MH_r12 hN, MH_r13 hN, MH_r14 hN, MH_r15 hN, MH_r17 hN, MH_r18 hN, MH_r22 hN, Option.bind_some]
      rw [MH_s59 hN hu]
      refine ⟨_, _, b, rfl, ?_⟩
      obtain ⟨h1, h2, h3, h4, h5, h6, h7, h8⟩ := h
      have ha : ∀ i, i ≠ 58 → i ≠ 59 → (va_up (va_up a 58 (cpW (a 58) 0 (25 + u))) 59 (upd (va_up a 58 (cpW (a 58) 0 (25 + u)) 59) u (nar 3 1))) i = a i := fun i g1 g2 => by rw [vup_n g2, vup_n g1]
      refine ⟨?_, h2, ⟨h3.1, by rw [ha 57 (by omega) (by omega)]; exact h3.2⟩, h4, ?_, ⟨h6.1, ?_⟩, ?_, ⟨h8.1, by rw [ha 65 (by omega) (by omega)]; exact h8.2⟩⟩
      · rw [ha 54 (by omega) (by omega), ha 55 (by omega) (by omega), ha 56 (by omega) (by omega)]; exact h1
      · rw [vup_n (by omega), vup_s]; exact cpW_out (by omega) h5
      · rw [vup_n (by omega), vup_s]; exact fun j hj => cpW_out (by have : j < s.na := hj; omega) (h6.2 j hj)
      · intro q hq
        rw [vup_s, vup_n (show 58 ≠ 59 by omega), vup_s, vup_n (show 59 ≠ 58 by omega)]
        by_cases c3 : q = u
        · subst c3
          refine Or.inr ⟨s.bd, ?_, vup_s, cpW_in h5⟩
          rw [upd_s]; decide +kernel
        · rw [upd_n c3]
          rcases h7 q hq with ⟨g1, g2⟩ | ⟨y, g1, g2, g3⟩
          · exact Or.inl ⟨g1, by show va_up s.im u (some s.bd) q = none; rw [vup_n c3]; exact g2⟩
          · exact Or.inr ⟨y, g1, by show va_up s.im u (some s.bd) q = some y; rw [vup_n c3]; exact g2, cpW_out (by omega) g3⟩
  · rw [if_neg c1, if_neg c1]; exact ⟨f, a, b, rfl, h⟩
theorem mo_restore (hN : 66 ≤ N) (h : RM f a s) (hv : VA m s) (k : Int32) : MOp N f a b (fun σ => m_X9_restore N σ 53 k) (o_restore s k).1 (o_restore s k).2 := by
  intro σ
  show ∃ f' a' b', m_X9_restore N (MH σ f a b) 53 k = _ ∧ _
  unfold m_X9_restore o_restore
  rw [MH_rv hN, show (0 : Int64) = (0 : Int32).toInt64 by decide +kernel, show (1 : Int64) = (1 : Int32).toInt64 by decide +kernel, i64_in]
  simp only [MH_rv hN, MH_f3 hN, MH_f4 hN, MH_f6 hN, MH_f7 hN, MH_f8 hN, MH_f9 hN, MH_f11 hN, MH_f16 hN, MH_f19 hN, MH_f20 hN, MH_f21 hN, MH_f23 hN, MH_r0 hN, MH_r1 hN, MH_r2 hN, MH_r5 hN, MH_r10 hN, MH_r12 hN, MH_r13 hN, MH_r14 hN, MH_r15 hN, MH_r17 hN, MH_r18 hN, MH_r22 hN, Option.bind_some, ite10]
  by_cases c1 : 0 ≤ k ∧ k ≤ 1
  · rw [if_pos c1, if_pos c1]
    obtain ⟨u, hu, rfl⟩ := i1 c1
    rw [MH_a59 hN hu, nt_nI (by omega)]
    simp only [Option.bind_some]
    obtain ⟨_, _, _, _, h5, h6, h7, _⟩ := id h
    rcases h7 u hu with ⟨g1, g2⟩ | ⟨y, g1, g2, g3⟩
    · rw [g1, if_pos rfl, g2]; exact ⟨f, a, b, rfl, h⟩
    · rw [g1, if_neg (show ¬ (1 : Int32) = 0 by decide +kernel), g2, show (25 : Int32) = nI 25 from rfl, nI_add, show (16 : Int32) = nI 16 from rfl, pk_mul, Nat.mul_comm, show (0 : Int32) = nI (16 * 0) from rfl, copies_ok hN (by omega) (by omega) (by omega)]
      simp only [Option.bind_some]
      rw [MH_put (j := 11) hN (by omega)]
      refine ⟨_, _, b, rfl, h.brd ⟨upd_n (by decide), upd_n (by decide), upd_n (by decide), upd_n (by decide)⟩ (fun i hi => vup_n (by omega)) ?_ upd_s (fun j hj => absurd hj (by omega)) (fun q hq x hx => ?_)⟩
      · rw [vup_s]; exact cpW_in g3
      · rw [vup_s]
        rcases h7 q hq with ⟨_, g⟩ | ⟨z, _, e2, e3⟩
        · rw [g] at hx; cases hx
        · rw [e2] at hx; cases hx
          exact cpW_out (by omega) e3
  · rw [if_neg c1, if_neg c1]; exact ⟨f, a, b, rfl, h⟩
theorem mo_can (hN : 66 ≤ N) (h : RM f a s) (hv : VA m s) (hm : m < 2 ^ 30) : MOp N f a b (fun σ => m_X9_can N σ 53) (o_can s) s := by
  intro σ
  show ∃ f' a' b', m_X9_can N (MH σ f a b) 53 = _ ∧ _
  unfold m_X9_can o_can
  simp only [MH_rv hN, MH_f3 hN, MH_f4 hN, MH_f6 hN, MH_f7 hN, MH_f8 hN, MH_f9 hN, MH_f11 hN, MH_f16 hN, MH_f19 hN, MH_f20 hN, MH_f21 hN, MH_f23 hN, MH_r0 hN, MH_r1 hN, MH_r2 hN, MH_r5 hN, MH_r10 hN, MH_r12 hN, MH_r13 hN, MH_r14 hN, MH_r15 hN, MH_r17 hN, MH_r18 hN, MH_r22 hN, Option.bind_some, isBoard_ok hN h hv, ite01]
  by_cases c1 : s.bd.P = 0
  · rw [if_pos c1, if_pos c1]; exact ⟨f, a, b, rfl, h⟩
  · rw [if_neg c1, if_neg c1, asTold_ok hN]
    simp only [Option.bind_some]
    rw [state_ok hN h.2.2.2.2.1 hv.2.2.1 hm]
    simp only [Option.bind_some]
    rw [movesOf_ok hN (told_of (f := f) h.2.2.2.2.1 hv.2.2.1) (stx_lt hv.2.2.1)]
    exact ⟨_, a, b, rfl, h.tol⟩
theorem mo_kind (hN : 66 ≤ N) (h : RM f a s) (hv : VA m s) (d : Int32) : m_X9_kind N (MH σ f a b) 53 d = some (o_kind s d) := by
  obtain ⟨_, h6, _⟩ := hv.2.2.1.d4
  unfold m_X9_kind o_kind
  simp only [MH_rv hN, MH_f3 hN, MH_f4 hN, MH_f6 hN, MH_f7 hN, MH_f8 hN, MH_f9 hN, MH_f11 hN, MH_f16 hN, MH_f19 hN, MH_f20 hN, MH_f21 hN, MH_f23 hN, MH_r0 hN, MH_r1 hN, MH_r2 hN, MH_r5 hN, MH_r10 hN, MH_r12 hN, MH_r13 hN, MH_r14 hN, MH_r15 hN, MH_r17 hN, MH_r18 hN, MH_r22 hN, Option.bind_some, isDisc_ok hN h hv, ite10]
  by_cases c1 : isD s d
  · rw [if_pos c1, if_pos c1]
    obtain ⟨u, hu, rfl⟩ := lt_of (by omega) c1
    rw [show (4 : Int32) = nI 4 from rfl, nI_add, MH_a58 hN (by omega), nt_nI (by omega)]
    have := (h.2.2.2.2.1.2.2.2.2 u (by omega)).1
    rw [show 16 * 0 + 4 + u = 4 + u by omega] at this
    rw [this]; rfl
  · rw [if_neg c1, if_neg c1]
theorem isOf_all : ∀ k, k < 6 → ∀ q, q < 6 → m_X9_isOf (nI k) (nI q) = some (if isOf k q = true then 1 else 0) := by decide +kernel
theorem i5 {k : Int32} (h : 0 ≤ k ∧ k ≤ 5) : ∃ u, u < 6 ∧ k = nI u := by
  obtain ⟨u, h1, h2⟩ := ni_of (n := 5) (by omega) h.1 h.2
  exact ⟨u, by omega, h2⟩
theorem mo_as (hN : 66 ≤ N) (h : RM f a s) (hv : VA m s) (d k : Int32) : MOp N f a b (fun σ => m_X9_as N σ 53 d k) (o_as s d k).1 (o_as s d k).2 := by
  intro σ
  show ∃ f' a' b', m_X9_as N (MH σ f a b) 53 d k = _ ∧ _
  obtain ⟨_, h6, _, _, _, hk5⟩ := hv.2.2.1.d4
  unfold m_X9_as o_as
  simp only [MH_rv hN, MH_f3 hN, MH_f4 hN, MH_f6 hN, MH_f7 hN, MH_f8 hN, MH_f9 hN, MH_f11 hN, MH_f16 hN, MH_f19 hN, MH_f20 hN, MH_f21 hN, MH_f23 hN, MH_r0 hN, MH_r1 hN, MH_r2 hN, MH_r5 hN, MH_r10 hN, MH_r12 hN, MH_r13 hN, MH_r14 hN, MH_r15 hN, MH_r17 hN, MH_r18 hN, MH_r22 hN, Option.bind_some, isDisc_ok hN h hv, ite10]
  by_cases c1 : isD s d
  · rw [if_pos c1, if_pos c1, show (0 : Int64) = (0 : Int32).toInt64 by decide +kernel, show (5 : Int64) = (5 : Int32).toInt64 by decide +kernel, i64_in]
    simp only [Option.bind_some, ite10]
    by_cases c2 : 0 ≤ k ∧ k ≤ 5
    · rw [if_pos c2, if_pos c2]
      obtain ⟨u, hu, rfl⟩ := lt_of (by omega) c1
      obtain ⟨w, hw, rfl⟩ := i5 c2
      rw [show (4 : Int32) = nI 4 from rfl, nI_add, MH_a58 hN (by omega), nt_nI (by omega), nt_nI (by omega)]
      simp only [Option.bind_some]
      have := (h.2.2.2.2.1.2.2.2.2 u (by omega)).1
      rw [show 16 * 0 + 4 + u = 4 + u by omega] at this
      rw [this, isOf_all _ (by have := hk5 u; omega) w hw]
      simp only [Option.bind_some, ite10]
      by_cases c3 : isOf (s.bd.kd u) w = true
      · rw [if_pos c3, if_pos c3, good_ok hN]
        exact ⟨_, a, b, rfl, h.fnd 0⟩
      · rw [if_neg c3, if_neg c3, finds_ok hN]
        exact ⟨_, a, b, rfl, h.fnd 3⟩
    · rw [if_neg c2, if_neg c2]; exact ⟨f, a, b, rfl, h⟩
  · rw [if_neg c1, if_neg c1]; exact ⟨f, a, b, rfl, h⟩
theorem mo_fault (hN : 66 ≤ N) (h : RM f a s) : m_X9_fault N (MH σ f a b) 53 = some s.flt := by
  unfold m_X9_fault
  simp only [MH_rv hN, MH_f3 hN, MH_f4 hN, MH_f6 hN, MH_f7 hN, MH_f8 hN, MH_f9 hN, MH_f11 hN, MH_f16 hN, MH_f19 hN, MH_f20 hN, MH_f21 hN, MH_f23 hN, MH_r0 hN, MH_r1 hN, MH_r2 hN, MH_r5 hN, MH_r10 hN, MH_r12 hN, MH_r13 hN, MH_r14 hN, MH_r15 hN, MH_r17 hN, MH_r18 hN, MH_r22 hN, Option.bind_some]
  rw [h.2.2.2.1]
theorem mo_status (hN : 66 ≤ N) (h : RM f a s) : m_X9_status N (MH σ f a b) 53 = some s.found := by
  unfold m_X9_status
  simp only [MH_rv hN, MH_f3 hN, MH_f4 hN, MH_f6 hN, MH_f7 hN, MH_f8 hN, MH_f9 hN, MH_f11 hN, MH_f16 hN, MH_f19 hN, MH_f20 hN, MH_f21 hN, MH_f23 hN, MH_r0 hN, MH_r1 hN, MH_r2 hN, MH_r5 hN, MH_r10 hN, MH_r12 hN, MH_r13 hN, MH_r14 hN, MH_r15 hN, MH_r17 hN, MH_r18 hN, MH_r22 hN, Option.bind_some]
  rw [h.2.1]
def o_trace (s : AS) (i : Int32) : Int32 := if 0 ≤ i ∧ i < nI s.trl then s.tr (nt i) else -1000000
theorem mo_trace (hN : 66 ≤ N) (h : RM f a s) (hv : VA m s) (i : Int32) : m_X9_trace N (MH σ f a b) 53 i = some (o_trace s i) := by
  have h16 := hv.2.2.2.2.2.1
  unfold m_X9_trace o_trace
  simp only [MH_rv hN, MH_f3 hN, MH_f4 hN, MH_f6 hN, MH_f7 hN, MH_f8 hN, MH_f9 hN, MH_f11 hN, MH_f16 hN, MH_f19 hN, MH_f20 hN, MH_f21 hN, MH_f23 hN, MH_r0 hN, MH_r1 hN, MH_r2 hN, MH_r5 hN, MH_r10 hN, MH_r12 hN, MH_r13 hN, MH_r14 hN, MH_r15 hN, MH_r17 hN, MH_r18 hN, MH_r22 hN, Option.bind_some]
  obtain ⟨g1, g2⟩ := h.2.2.2.2.2.2.2
  rw [g1, in_pred i (by omega)]
  simp only [Option.bind_some, ite10]
  by_cases c : 0 ≤ i ∧ i < nI s.trl
  · rw [if_pos c, if_pos c]
    obtain ⟨u, hu, rfl⟩ := lt_of (by omega) c
    rw [MH_a65 hN (by omega), nt_nI (by omega), g2 u hu]; rfl
  · rw [if_neg c, if_neg c]
end MO
