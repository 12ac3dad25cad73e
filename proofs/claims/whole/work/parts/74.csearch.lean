/-! the class searches -/
def sObj (p : Nat) (f : Nat → Int32) : va_E := .inr (6, [.ref (p + 1), .ref (p + 2), .ref (p + 3), .ref (p + 4), .ref (p + 5), .int (f 5), .int (f 6), .int (f 7), .int (f 8), .int (f 9), .int (f 10)])
def iR (g : Nat → Int32) : va_E := .inl (0, 8192, .inl g)
/-- the cells that a search writes -/
def HS (τ : Hp) (n p : Nat) (kn f q st lm ah : Nat → Int32) : Hp := fun i => if i = n + 2 then iR kn else if i = p then sObj p f else if i = p + 2 then iR q else if i = p + 3 then iR st else if i = p + 4 then iR lm else if i = p + 5 then iR ah else τ i
def tI (tn : Bool) : Int32 := if tn then 4096 else 0
/-- what lies around it -/
def CX (N : Nat) (τ : Hp) (n p : Nat) (tn : Bool) (gl go : Nat → Int32) (P H D : Nat) (kd : Nat → Nat) (a0 : Nat) : Prop := (n + 3 ≤ p ∨ p + 6 ≤ n) ∧ n + 2 < N ∧ p + 5 < N ∧ τ n = .inr (4, [.ref (n + 1), .ref (n + 2), .int (tI tn)]) ∧ τ (n + 1) = bC gl ∧ BL gl P H D kd ∧ τ (p + 1) = bC go ∧ go 5 = nI a0 ∧ a0 < 4096
section HSs
variable {N n p : Nat} {τ : Hp} {kn f q st lm ah : Nat → Int32}
theorem HS_kn : HS τ n p kn f q st lm ah (n + 2) = iR kn := if_pos rfl
theorem HS_p (h : n + 3 ≤ p ∨ p + 6 ≤ n) : HS τ n p kn f q st lm ah p = sObj p f := by unfold HS; rw [if_neg (show ¬ p = n + 2 by omega), if_pos rfl]
theorem HS_q (h : n + 3 ≤ p ∨ p + 6 ≤ n) : HS τ n p kn f q st lm ah (p + 2) = iR q := by unfold HS; rw [if_neg (show ¬ p + 2 = n + 2 by omega), if_neg (show ¬ p + 2 = p by omega), if_pos rfl]
theorem HS_st (h : n + 3 ≤ p ∨ p + 6 ≤ n) : HS τ n p kn f q st lm ah (p + 3) = iR st := by unfold HS; rw [if_neg (show ¬ p + 3 = n + 2 by omega), if_neg (show ¬ p + 3 = p by omega), if_neg (show ¬ p + 3 = p + 2 by omega), if_pos rfl]
theorem HS_lm (h : n + 3 ≤ p ∨ p + 6 ≤ n) : HS τ n p kn f q st lm ah (p + 4) = iR lm := by unfold HS; rw [if_neg (show ¬ p + 4 = n + 2 by omega), if_neg (show ¬ p + 4 = p by omega), if_neg (show ¬ p + 4 = p + 2 by omega), if_neg (show ¬ p + 4 = p + 3 by omega), if_pos rfl]
theorem HS_ah (h : n + 3 ≤ p ∨ p + 6 ≤ n) : HS τ n p kn f q st lm ah (p + 5) = iR ah := by unfold HS; rw [if_neg (show ¬ p + 5 = n + 2 by omega), if_neg (show ¬ p + 5 = p by omega), if_neg (show ¬ p + 5 = p + 2 by omega), if_neg (show ¬ p + 5 = p + 3 by omega), if_neg (show ¬ p + 5 = p + 4 by omega), if_pos rfl]
theorem HS_o {i : Nat} (h : i ≠ n + 2 ∧ i ≠ p ∧ i ≠ p + 2 ∧ i ≠ p + 3 ∧ i ≠ p + 4 ∧ i ≠ p + 5) : HS τ n p kn f q st lm ah i = τ i := by
  unfold HS; rw [if_neg h.1, if_neg h.2.1, if_neg h.2.2.1, if_neg h.2.2.2.1, if_neg h.2.2.2.2.1, if_neg h.2.2.2.2.2]
theorem HS_ukn (g : Nat → Int32) : va_up (HS τ n p kn f q st lm ah) (n + 2) (iR g) = HS τ n p g f q st lm ah := by
  funext i
  by_cases c : i = n + 2
  · subst c; rw [vup_s, HS_kn]
  · rw [vup_n c]; unfold HS; rw [if_neg c, if_neg c]
theorem HS_up (h : n + 3 ≤ p ∨ p + 6 ≤ n) (g : Nat → Int32) : va_up (HS τ n p kn f q st lm ah) p (sObj p g) = HS τ n p kn g q st lm ah := by
  funext i
  by_cases c : i = p
  · subst c; rw [vup_s, HS_p h]
  · rw [vup_n c]; unfold HS; rw [if_neg c, if_neg c]
theorem HS_uq (h : n + 3 ≤ p ∨ p + 6 ≤ n) (g : Nat → Int32) : va_up (HS τ n p kn f q st lm ah) (p + 2) (iR g) = HS τ n p kn f g st lm ah := by
  funext i
  by_cases c : i = p + 2
  · subst c; rw [vup_s, HS_q h]
  · rw [vup_n c]; unfold HS; rw [if_neg c, if_neg c]
theorem HS_ust (h : n + 3 ≤ p ∨ p + 6 ≤ n) (g : Nat → Int32) : va_up (HS τ n p kn f q st lm ah) (p + 3) (iR g) = HS τ n p kn f q g lm ah := by
  funext i
  by_cases c : i = p + 3
  · subst c; rw [vup_s, HS_st h]
  · rw [vup_n c]; unfold HS; rw [if_neg c, if_neg c]
theorem HS_ulm (h : n + 3 ≤ p ∨ p + 6 ≤ n) (g : Nat → Int32) : va_up (HS τ n p kn f q st lm ah) (p + 4) (iR g) = HS τ n p kn f q st g ah := by
  funext i
  by_cases c : i = p + 4
  · subst c; rw [vup_s, HS_lm h]
  · rw [vup_n c]; unfold HS; rw [if_neg c, if_neg c]
theorem HS_uah (h : n + 3 ≤ p ∨ p + 6 ≤ n) (g : Nat → Int32) : va_up (HS τ n p kn f q st lm ah) (p + 5) (iR g) = HS τ n p kn f q st lm g := by
  funext i
  by_cases c : i = p + 5
  · subst c; rw [vup_s, HS_ah h]
  · rw [vup_n c]; unfold HS; rw [if_neg c, if_neg c]
end HSs
-- reads and writes of the search
section HSr
variable {N n p : Nat} {τ : Hp} {kn f q st lm ah : Nat → Int32} {tn : Bool} {gl go : Nat → Int32} {P H D : Nat} {kd : Nat → Nat} {a0 : Nat}
theorem s_rv (h : CX N τ n p tn gl go P H D kd a0) : rv N (HS τ n p kn f q st lm ah) p 6 = some () := rv_of (by have := h.2.2.1; omega) (HS_p h.1)
theorem s_r0 (h : CX N τ n p tn gl go P H D kd a0) : gR N (HS τ n p kn f q st lm ah) p 6 0 = some (p + 1) := gR_of (by have := h.2.2.1; omega) (HS_p h.1) rfl
theorem s_r1 (h : CX N τ n p tn gl go P H D kd a0) : gR N (HS τ n p kn f q st lm ah) p 6 1 = some (p + 2) := gR_of (by have := h.2.2.1; omega) (HS_p h.1) rfl
theorem s_r2 (h : CX N τ n p tn gl go P H D kd a0) : gR N (HS τ n p kn f q st lm ah) p 6 2 = some (p + 3) := gR_of (by have := h.2.2.1; omega) (HS_p h.1) rfl
theorem s_r3 (h : CX N τ n p tn gl go P H D kd a0) : gR N (HS τ n p kn f q st lm ah) p 6 3 = some (p + 4) := gR_of (by have := h.2.2.1; omega) (HS_p h.1) rfl
theorem s_r4 (h : CX N τ n p tn gl go P H D kd a0) : gR N (HS τ n p kn f q st lm ah) p 6 4 = some (p + 5) := gR_of (by have := h.2.2.1; omega) (HS_p h.1) rfl
theorem s_i (h : CX N τ n p tn gl go P H D kd a0) {j : Nat} (hj : 5 ≤ j ∧ j ≤ 10) : gI N (HS τ n p kn f q st lm ah) p 6 j = some (f j) := by
  have hp := h.2.2.1
  rcases (show j = 5 ∨ j = 6 ∨ j = 7 ∨ j = 8 ∨ j = 9 ∨ j = 10 by omega) with rfl | rfl | rfl | rfl | rfl | rfl <;> exact gI_of (by omega) (HS_p h.1) rfl
theorem s_p (h : CX N τ n p tn gl go P H D kd a0) {j : Nat} (hj : 5 ≤ j ∧ j ≤ 10) {v : Int32} : pV N (HS τ n p kn f q st lm ah) p 6 j (.int v) = some (HS τ n p kn (upd f j v) q st lm ah) := by
  have hp := h.2.2.1
  rw [← HS_up h.1 (upd f j v)]
  rcases (show j = 5 ∨ j = 6 ∨ j = 7 ∨ j = 8 ∨ j = 9 ∨ j = 10 by omega) with rfl | rfl | rfl | rfl | rfl | rfl <;> exact pV_of (by omega) (HS_p h.1) (by simp)
theorem s_aq (h : CX N τ n p tn gl go P H D kd a0) {k : Nat} (hk : k < 8192) : aI 0 N (HS τ n p kn f q st lm ah) (p + 2) (nI k) = some (q k) := aI_of (by have := h.2.2.1; omega) (HS_q h.1) hk (by omega)
theorem s_ast (h : CX N τ n p tn gl go P H D kd a0) {k : Nat} (hk : k < 8192) : aI 0 N (HS τ n p kn f q st lm ah) (p + 3) (nI k) = some (st k) := aI_of (by have := h.2.2.1; omega) (HS_st h.1) hk (by omega)
theorem s_alm (h : CX N τ n p tn gl go P H D kd a0) {k : Nat} (hk : k < 8192) : aI 0 N (HS τ n p kn f q st lm ah) (p + 4) (nI k) = some (lm k) := aI_of (by have := h.2.2.1; omega) (HS_lm h.1) hk (by omega)
theorem s_aah (h : CX N τ n p tn gl go P H D kd a0) {k : Nat} (hk : k < 8192) : aI 0 N (HS τ n p kn f q st lm ah) (p + 5) (nI k) = some (ah k) := aI_of (by have := h.2.2.1; omega) (HS_ah h.1) hk (by omega)
theorem s_sq (h : CX N τ n p tn gl go P H D kd a0) {k : Nat} (hk : k < 8192) {v : Int32} : sI 0 N (HS τ n p kn f q st lm ah) (p + 2) (nI k) v = some (HS τ n p kn f (upd q k v) st lm ah) := by
  rw [← HS_uq h.1 (upd q k v)]; exact sI_of (by have := h.2.2.1; omega) (HS_q h.1) hk (by omega)
theorem s_sst (h : CX N τ n p tn gl go P H D kd a0) {k : Nat} (hk : k < 8192) {v : Int32} : sI 0 N (HS τ n p kn f q st lm ah) (p + 3) (nI k) v = some (HS τ n p kn f q (upd st k v) lm ah) := by
  rw [← HS_ust h.1 (upd st k v)]; exact sI_of (by have := h.2.2.1; omega) (HS_st h.1) hk (by omega)
theorem s_slm (h : CX N τ n p tn gl go P H D kd a0) {k : Nat} (hk : k < 8192) {v : Int32} : sI 0 N (HS τ n p kn f q st lm ah) (p + 4) (nI k) v = some (HS τ n p kn f q st (upd lm k v) ah) := by
  rw [← HS_ulm h.1 (upd lm k v)]; exact sI_of (by have := h.2.2.1; omega) (HS_lm h.1) hk (by omega)
theorem s_sah (h : CX N τ n p tn gl go P H D kd a0) {k : Nat} (hk : k < 8192) {v : Int32} : sI 0 N (HS τ n p kn f q st lm ah) (p + 5) (nI k) v = some (HS τ n p kn f q st lm (upd ah k v)) := by
  rw [← HS_uah h.1 (upd ah k v)]; exact sI_of (by have := h.2.2.1; omega) (HS_ah h.1) hk (by omega)
theorem s_of (h : CX N τ n p tn gl go P H D kd a0) : BH N (HS τ n p kn f q st lm ah) (p + 1) go := ⟨by have := h.2.2.1; omega, by rw [HS_o (by have := h.1; omega)]; exact h.2.2.2.2.2.2.1⟩
theorem s_law (h : CX N τ n p tn gl go P H D kd a0) : BH N (HS τ n p kn f q st lm ah) (n + 1) gl := ⟨by have := h.2.1; omega, by rw [HS_o (by have := h.1; omega)]; exact h.2.2.2.2.1⟩
end HSr
/-- the net in any heap -/
def NE (N : Nat) (τ : Hp) (n : Nat) (tn : Bool) (gl kn : Nat → Int32) : Prop := n + 2 < N ∧ τ n = .inr (4, [.ref (n + 1), .ref (n + 2), .int (tI tn)]) ∧ τ (n + 1) = bC gl ∧ τ (n + 2) = iR kn
/-- what is known is right -/
def KN (P H D : Nat) (kd : Nat → Nat) (kn : Nat → Int32) : Prop := ∀ x, x < 8192 → kn x = -1 ∨ kn x = nI (mms P H D kd x)
theorem and8191 {x : Nat} (h : x < 8192) : nI x &&& 8191 = nI x := by
  rw [pk_andN (m := 8191) (k := 13) (by omega) (by decide +kernel)]; congr 1; exact Nat.mod_eq_of_lt h
theorem and4095 {x : Nat} (h : x < 2 ^ 31) : nI x &&& 4095 = nI (x % 4096) := pk_andN (m := 4095) (k := 12) (by omega) (by decide +kernel)
theorem and4096 {x : Nat} (h : x < 8192) : nI x &&& 4096 = nI (4096 * (x / 4096)) := by
  rw [show nI x &&& 4096 = nI (x &&& 4096) from ni_and x 4096]
  congr 1
  apply Nat.eq_of_testBit_eq
  intro i
  rw [Nat.testBit_and, show (4096 : Nat) = 2 ^ 12 from rfl, Nat.testBit_two_pow]
  by_cases c : 4096 ≤ x
  · rw [show 2 ^ 12 * (x / 2 ^ 12) = 2 ^ 12 by omega, Nat.testBit_two_pow]
    by_cases e : 12 = i
    · subst e; rw [odd_tb h, decide_eq_true c]; rfl
    · rw [decide_eq_false e, Bool.and_false]
  · rw [show 2 ^ 12 * (x / 2 ^ 12) = 0 by omega, Nat.zero_testBit]
    by_cases e : 12 = i
    · subst e; rw [odd_tb h, decide_eq_false c]; rfl
    · rw [decide_eq_false e, Bool.and_false]
theorem or4096 {x : Nat} (h : x < 4096) : x ||| 4096 = x + 4096 := by
  have := Nat.two_pow_add_eq_or_of_lt (i := 12) (b := x) h 1
  rw [Nat.or_comm, show (4096 : Nat) = 2 ^ 12 * 1 from rfl, ← this]
  omega
section Nt
variable {N n : Nat} {τ : Hp} {tn : Bool} {gl kn : Nat → Int32} {P H D : Nat} {kd : Nat → Nat}
theorem movesAt_ok (h : NE N τ n tn gl kn) (hL : BL gl P H D kd) (hK : KN P H D kd kn) {x : Nat} (hx : x < 8192) : ∃ kn', m_X4_movesAt N τ n (nI x) = some (nI (mms P H D kd x), va_up τ (n + 2) (iR kn')) ∧ KN P H D kd kn' := by
  obtain ⟨h1, h2, h3, h4⟩ := h
  have hm := mms_lt P H D kd x
  unfold m_X4_movesAt
  rw [rv_of (by omega) h2, gR_of (fs := [.ref (n + 1), .ref (n + 2), .int (tI tn)]) (by omega) h2 rfl, and8191 hx]
  simp only [Option.bind_some]
  rw [aI_of (by omega) h4 hx (by omega)]
  simp only [Option.bind_some]
  by_cases c : kn x = -1
  · rw [if_pos c, gR_of (x := n + 1) (fs := [.ref (n + 1), .ref (n + 2), .int (tI tn)]) (by omega) h2 rfl]
    simp only [Option.bind_some]
    rw [and4096 hx, and4095 (by omega)]
    have hz : ((if nI (4096 * (x / 4096)) = 0 then some 0 else some 1) : Option Int32) = some (bI (decide (4096 ≤ x))) := by
      by_cases c2 : 4096 ≤ x
      · rw [show 4096 * (x / 4096) = 4096 by omega, if_neg (show ¬ nI 4096 = 0 by decide +kernel), decide_eq_true c2]; rfl
      · rw [show 4096 * (x / 4096) = 0 by omega, if_pos (show nI 0 = 0 from rfl), decide_eq_false c2]; rfl
    rw [hz]
    simp only [Option.bind_some]
    rw [movesFrom_ok (c := n + 1) ⟨by omega, h3⟩ hL hx]
    simp only [Option.bind_some]
    rw [sI_of (by omega) h4 hx (by omega), show nar 0 (nI (mms P H D kd x)) = nI (mms P H D kd x) from rfl]
    simp only [Option.bind_some]
    rw [gR_of (x := n + 2) (fs := [.ref (n + 1), .ref (n + 2), .int (tI tn)]) (by omega) (show va_up τ (n + 2) _ n = _ by rw [vup_n (by omega)]; exact h2) rfl]
    simp only [Option.bind_some]
    rw [aI_of (f := upd kn x (nI (mms P H D kd x))) (n := 8192) (by omega) vup_s hx (by omega), upd_s]
    refine ⟨_, rfl, fun y hy => ?_⟩
    by_cases e : y = x
    · subst e; rw [upd_s]; exact Or.inr rfl
    · rw [upd_n e]; exact hK y hy
  · rw [if_neg c]
    have := (hK x hx).resolve_left c
    rw [this]
    refine ⟨kn, ?_, hK⟩
    congr 2
    funext i
    by_cases e : i = n + 2
    · subst e; rw [vup_s, h4]
    · rw [vup_n e]
theorem stateBehind_ok (h : NE N τ n tn gl kn) (hL : BL gl P H D kd) {x k : Nat} (hx : x < 8192) (hk : lgl P H D kd x k = true) : m_X4_stateBehind N τ n (nI x) (nI k) = some (nI (cnx tn H D kd x k)) := by
  obtain ⟨h1, h2, h3, h4⟩ := h
  unfold m_X4_stateBehind
  rw [rv_of (by omega) h2, gR_of (x := n + 1) (fs := [.ref (n + 1), .ref (n + 2), .int (tI tn)]) (by omega) h2 rfl, and4095 (by omega)]
  simp only [Option.bind_some]
  rw [cbehind_ok (c := n + 1) ⟨by omega, h3⟩ hL hx hk, gI_of (fs := [.ref (n + 1), .ref (n + 2), .int (tI tn)]) (by omega) h2 rfl]
  simp only [Option.bind_some]
  have hb := bhd_lt hx hk
  have hp := bhd_par hx hk
  congr 1
  unfold cnx
  cases tn with
  | false =>
    rw [show tI false = nI 0 from rfl, show nI x ^^^ 4096 = nI (x ^^^ 4096) from ni_xor x 4096, ni_and, Nat.and_zero, ni_or, Nat.or_zero]; rfl
  | true =>
    have hx' : x ^^^ 4096 < 8192 := by rw [xor4096 hx]; split <;> omega
    rw [show tI true = 4096 from rfl, show nI x ^^^ 4096 = nI (x ^^^ 4096) from ni_xor x 4096, and4096 hx', ni_or, xor4096 hx]
    congr 1
    show _ = bhd H D kd x k
    by_cases c : x < 4096
    · rw [if_pos c, show 4096 * ((x + 4096) / 4096) = 4096 by omega, or4096 (Nat.mod_lt _ (by omega))]; omega
    · rw [if_neg c, show 4096 * ((x - 4096) / 4096) = 0 by omega, Nat.or_zero]; omega
end Nt
