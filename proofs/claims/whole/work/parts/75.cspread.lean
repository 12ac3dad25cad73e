/-! the class: the search goes on -/
def stI (S : BS) (x : Nat) : Int32 := match S.ix x with
  | none => -1
  | some j => nI (S.dq j)
/-- the search as the class holds it -/
def SR (f q st lm ah : Nat → Int32) (S : BS) : Prop := f 5 = nI S.n ∧ (∀ j, j < S.n → q j = nI (S.q j)) ∧ (∀ x, x < 8192 → st x = stI S x) ∧ ∀ j, 0 < j → j < S.n → lm (S.q j) = nI (S.mq j) ∧ ah (S.q j) = nI (S.q (S.pq j))
def bkI (v : Nat) : Int32 := if v = 9000 then -1000000 else nI v
/-- one of the moves from 16 - r on leads to where T holds -/
def hitT (mv : Nat → Nat → Bool) (nx : Nat → Nat → Nat) (T : Nat → Bool) (x : Nat) : Nat → Bool
  | 0 => false
  | r + 1 => (mv x (15 - r) && T (nx x (15 - r))) || hitT mv nx T x r
theorem hitT_bef {mv : Nat → Nat → Bool} {nx : Nat → Nat → Nat} {T : Nat → Bool} {x : Nat} : hitT mv nx T x 16 = bef mv nx T x := by
  have key : ∀ r, r ≤ 16 → (hitT mv nx T x r = true ↔ ∃ k, 16 - r ≤ k ∧ k < 16 ∧ mv x k = true ∧ T (nx x k) = true) := by
    intro r
    induction r with
    | zero => intro _; exact ⟨fun h => absurd h (by simp [hitT]), fun ⟨k, h1, h2, _⟩ => absurd h1 (by omega)⟩
    | succ r ih =>
      intro hr
      rw [hitT, Bool.or_eq_true, Bool.and_eq_true, ih (by omega)]
      constructor
      · rintro (⟨h1, h2⟩ | ⟨k, h1, h2, h3⟩)
        · exact ⟨15 - r, by omega, by omega, h1, h2⟩
        · exact ⟨k, by omega, h2, h3⟩
      · rintro ⟨k, h1, h2, h3⟩
        by_cases c : k = 15 - r
        · subst c; exact Or.inl h3
        · exact Or.inr ⟨k, by omega, h2, h3⟩
  apply Bool.eq_iff_iff.mpr
  rw [key 16 (Nat.le_refl _), bef_iff]
  constructor
  · rintro ⟨k, _, h⟩; exact ⟨k, h⟩
  · rintro ⟨k, h⟩; exact ⟨k, Nat.zero_le _, h⟩
section CSp
variable {N n p : Nat} {τ : Hp} {kn f q st lm ah : Nat → Int32} {tn : Bool} {gl go : Nat → Int32} {P H D : Nat} {kd : Nat → Nat} {a0 s0 : Nat} {S : BS}
theorem SR.at {mv : Nat → Nat → Bool} {nx : Nat → Nat → Nat} {V : Nat → Prop} {i k : Nat} (hI : BI mv nx V s0 S i k) (hS : SR f q st lm ah S) {j : Nat} (hj : j < S.n) : st (S.q j) = nI (S.dq j) := by
  obtain ⟨q1, q2, _⟩ := hI.2.1 j hj
  rw [hS.2.2.1 _ q2]; unfold stI; rw [q1]
theorem bkI_eq {v : Nat} (h : v ≤ 9000) : bkI v = -1000000 ↔ v = 9000 := by
  unfold bkI
  by_cases c : v = 9000
  · rw [if_pos c]; exact ⟨fun _ => c, fun _ => rfl⟩
  · rw [if_neg c]
    refine ⟨fun e => ?_, fun e => absurd e c⟩
    have := congrArg Int32.toInt e
    rw [nI_toInt (by omega), show (-1000000 : Int32).toInt = -1000000 from rfl] at this
    omega
/-- y is come to -/
theorem comeTo_ok (h : CX N τ n p tn gl go P H D kd a0) {V : Nat → Prop} {i k : Nat} (hI : BI (lgl P H D kd) (cnx tn H D kd) V s0 S i k) (hi : i < S.n) (hS : SR f q st lm ah S) {y v : Nat} (hy : y < 8192) (hk : k < 16) (hv : v ≤ 9000) (hb : f 10 = bkI v) : ∃ f' q' st' lm' ah', m_X6_comeTo N (HS τ n p kn f q st lm ah) p (nI y) (nI (S.q i)) (nI k) = some (HS τ n p kn f' q' st' lm' ah') ∧ SR f' q' st' lm' ah' (bsC S i y k) ∧ (∀ j, 6 ≤ j → j ≤ 9 → f' j = f j) ∧ f' 10 = bkI (if v = 9000 then (if arT a0 y then S.dq i + 1 else 9000) else v) := by
  have ha := h.2.2.2.2.2.2.2
  obtain ⟨q1, q2, q3⟩ := hI.2.1 i hi
  have hd := hI.dq_le i i (Nat.le_refl _) hi
  have hn := hI.n_le
  have hsx := SR.at hI hS hi
  -- the way back
  have h1 : ∃ f1, ((if f 10 = -1000000 then (gR N (HS τ n p kn f q st lm ah) p 6 0).bind fun x24 => (gI N (HS τ n p kn f q st lm ah) x24 2 5).bind fun x25 => if (nI y &&& 4095) = x25 then (gR N (HS τ n p kn f q st lm ah) p 6 2).bind fun x27 => (aI 0 N (HS τ n p kn f q st lm ah) x27 (nI (S.q i))).bind fun x28 => (pV N (HS τ n p kn f q st lm ah) p 6 10 (.int (x28 + 1))).bind fun σ29 => some σ29 else some (HS τ n p kn f q st lm ah) else some (HS τ n p kn f q st lm ah)) : Option Hp) = some (HS τ n p kn f1 q st lm ah) ∧ (∀ j, j ≠ 10 → f1 j = f j) ∧ f1 10 = bkI (if v = 9000 then (if arT a0 y then S.dq i + 1 else 9000) else v) := by
    rw [hb]
    by_cases c : v = 9000
    · rw [if_pos ((bkI_eq hv).mpr c), if_pos c, s_r0 h]
      simp only [Option.bind_some]
      rw [(s_of h).i5, ha.1, and4095 (by omega)]
      simp only [Option.bind_some]
      by_cases e : y % 4096 = a0
      · rw [if_pos (show nI (y % 4096) = nI a0 by rw [e]), s_r2 h]
        simp only [Option.bind_some]
        rw [s_ast h q2, hsx]
        simp only [Option.bind_some]
        rw [s_p h (by omega), nI_1, show arT a0 y = true by unfold arT; rw [e, beq_self_eq_true]]
        refine ⟨_, rfl, fun j hj => upd_n hj, ?_⟩
        rw [upd_s, if_pos rfl]
        unfold bkI
        rw [if_neg (show ¬ S.dq i + 1 = 9000 by omega)]
      · rw [if_neg (show ¬ nI (y % 4096) = nI a0 from fun e' => e ((nI_eq (by omega) (by have := ha.2; omega)).mp e')), show arT a0 y = false by unfold arT; exact beq_eq_false_iff_ne.mpr e]
        exact ⟨f, rfl, fun _ _ => rfl, by rw [hb, c]; rfl⟩
    · rw [if_neg (fun e => c ((bkI_eq hv).mp e)), if_neg c]
      exact ⟨f, rfl, fun _ _ => rfl, hb⟩
  obtain ⟨f1, e1, e2, e3⟩ := h1
  unfold m_X6_comeTo
  rw [s_rv h, s_i h (by omega)]
  simp only [Option.bind_some]
  rw [e1]
  simp only [Option.bind_some]
  rw [s_r2 h]
  simp only [Option.bind_some]
  rw [s_ast h hy, hS.2.2.1 y hy]
  simp only [Option.bind_some]
  have f15 : f1 5 = nI S.n := by rw [e2 5 (by decide)]; exact hS.1
  unfold bsC stI
  cases ei : S.ix y with
  | some j =>
    have hj := hI.2.2.1 _ _ ei
    have hdj := hI.dq_le j j (Nat.le_refl _) hj.1
    show ∃ f' q' st' lm' ah', (if nI (S.dq j) = -1 then _ else _) = _ ∧ _
    rw [if_neg (nI_n1 (by omega)), if_neg (by simp)]
    exact ⟨f1, q, st, lm, ah, rfl, ⟨f15, hS.2⟩, fun j h1 h2 => e2 j (by omega), e3⟩
  | none =>
    have hnl := hI.n_lt hy ei
    show ∃ f' q' st' lm' ah', (if (-1 : Int32) = -1 then _ else _) = _ ∧ _
    rw [if_pos rfl, if_pos rfl, s_i h (by omega), f15]
    simp only [Option.bind_some]
    rw [if_neg (show ¬ (8192 : Int32) ≤ nI S.n by rw [show (8192 : Int32) = nI 8192 from rfl, nI_leI (by omega) (by omega)]; omega), s_ast h q2, hsx]
    simp only [Option.bind_some]
    rw [s_sst h hy, nI_1]
    simp only [Option.bind_some]
    rw [s_r3 h]
    simp only [Option.bind_some]
    rw [s_slm h hy]
    simp only [Option.bind_some]
    rw [s_r4 h]
    simp only [Option.bind_some]
    rw [s_sah h hy]
    simp only [Option.bind_some]
    rw [s_r1 h, s_i h (by omega), f15]
    simp only [Option.bind_some]
    rw [s_sq h hnl]
    simp only [Option.bind_some]
    rw [s_i h (by omega), f15]
    simp only [Option.bind_some]
    rw [s_p h (by omega), nI_1]
    have hnew : ∀ j, j < S.n → S.q j ≠ y := fun j hj e => by
      have := (hI.2.1 j hj).1
      rw [e, ei] at this
      exact absurd this (by simp)
    refine ⟨_, _, _, _, _, rfl, ⟨upd_s, fun j hj => ?_, fun z hz => ?_, fun j j1 j2 => ?_⟩, fun j h1 h2 => by rw [upd_n (by omega)]; exact e2 j (by omega), by rw [upd_n (by decide)]; exact e3⟩
    · show upd q S.n (nI y) j = nI (vu S.q S.n y j)
      have hj : j < S.n + 1 := hj
      by_cases c : j = S.n
      · subst c; rw [upd_s, vu_s]
      · rw [upd_n c, vu_n c]; exact hS.2.1 j (by omega)
    · show upd st y (nI (S.dq i + 1)) z = stI (S.n + 1, vu S.q S.n y, vu S.ix y (some S.n), vu S.dq S.n (S.dq i + 1), vu S.pq S.n i, vu S.mq S.n k) z
      unfold stI
      show _ = match vu S.ix y (some S.n) z with
        | none => -1
        | some j => nI (vu S.dq S.n (S.dq i + 1) j)
      by_cases c : z = y
      · subst c; rw [upd_s, vu_s]
        show _ = nI (vu S.dq S.n (S.dq i + 1) S.n)
        rw [vu_s]
      · rw [upd_n c, vu_n c, hS.2.2.1 z hz]
        unfold stI
        cases ez : S.ix z with
        | none => rfl
        | some j =>
          show _ = nI (vu S.dq S.n (S.dq i + 1) j)
          rw [vu_n (by have := (hI.2.2.1 _ _ ez).1; omega)]
    · show upd lm y (nI k) (vu S.q S.n y j) = nI (vu S.mq S.n k j) ∧ upd ah y (nI (S.q i)) (vu S.q S.n y j) = nI (vu S.q S.n y (vu S.pq S.n i j))
      have j2 : j < S.n + 1 := j2
      by_cases c : j = S.n
      · subst c; rw [vu_s, vu_s, vu_s, upd_s, upd_s, vu_n (show i ≠ S.n by omega)]; exact ⟨rfl, rfl⟩
      · rw [vu_n c, vu_n c, vu_n c, upd_n (hnew j (by omega)), upd_n (hnew j (by omega)), vu_n (show S.pq j ≠ S.n by have := (hI.2.2.2.1 j j1 (by omega)).1; omega)]
        exact hS.2.2.2 j j1 (by omega)
/-- the moves of the i-th -/
theorem sp_76 (h : CX N τ n p tn gl go P H D kd a0) (hK : KN P H D kd kn) {i : Nat} {v3 : Int32} {x : Nat} (hx : x < 8192) : ∀ (r t : Nat) (S : BS) (f q st lm ah : Nat → Int32) (v : Nat), r ≤ 16 → r < t → BI (lgl P H D kd) (cnx tn H D kd) (CV tn P D) s0 S i (16 - r) → i < S.n → S.q i = x → SR f q st lm ah S → v ≤ 9000 → f 10 = bkI v → ∃ f' q' st' lm' ah' S', L_X6_spread_76 N p n v3 (nI x) (nI (mms P H D kd x)) t (HS τ n p kn f q st lm ah) (nI (16 - r)) = some (HS τ n p kn f' q' st' lm' ah') ∧ BI (lgl P H D kd) (cnx tn H D kd) (CV tn P D) s0 S' i 16 ∧ SR f' q' st' lm' ah' S' ∧ BS.ext S S' ∧ (∀ j, 6 ≤ j → j ≤ 9 → f' j = f j) ∧ f' 10 = bkI (if v = 9000 then (if hitT (lgl P H D kd) (cnx tn H D kd) (arT a0) x r then S.dq i + 1 else 9000) else v) := by
  have hm := mms_lt P H D kd x
  have h6 : D ≤ 6 := h.2.2.2.2.2.1.2.2.2.2.1
  intro r
  induction r with
  | zero =>
    intro t S f q st lm ah v hr ht hI hi hq hS hv hb
    obtain ⟨t, rfl⟩ : ∃ k, t = k + 1 := ⟨t - 1, by omega⟩
    refine ⟨f, q, st, lm, ah, S, by rw [L_X6_spread_76.eq_2, if_pos (show (16 : Int32) ≤ nI (16 - 0) by decide +kernel)], hI, hS, BS.ext.refl, fun _ _ _ => rfl, ?_⟩
    rw [hb, hitT, if_neg (show ¬ false = true by decide)]
    by_cases c : v = 9000
    · rw [if_pos c, c]
    · rw [if_neg c]
  | succ r ih =>
    intro t S f q st lm ah v hr ht hI hi hq hS hv hb
    obtain ⟨t, rfl⟩ : ∃ k, t = k + 1 := ⟨t - 1, by omega⟩
    have e15 : 16 - (r + 1) = 15 - r := by omega
    have e16 : 15 - r + 1 = 16 - r := by omega
    rw [e15] at hI ⊢
    have hn := hI.n_le
    have hdi := hI.dq_le i i (Nat.le_refl _) hi
    rw [L_X6_spread_76.eq_2, if_neg (show ¬ (16 : Int32) ≤ nI (15 - r) by rw [show (16 : Int32) = nI 16 from rfl, nI_leI (by omega) (by omega)]; omega), ni_bit (by omega) (by omega), tb_div, nI_1, e16]
    cases e : (mms P H D kd x).testBit (15 - r) with
    | false =>
      have hl : lgl P H D kd x (15 - r) = false := e
      rw [if_pos (show nI (if false = true then 1 else 0) = 0 from rfl)]
      have hI2 := hI.skip (by rw [hq]; exact hl)
      rw [e16] at hI2
      obtain ⟨f', q', st', lm', ah', S', g1, g2, g3, g4, g5, g6⟩ := ih t S f q st lm ah v (by omega) (by omega) hI2 hi hq hS hv hb
      refine ⟨f', q', st', lm', ah', S', g1, g2, g3, g4, g5, ?_⟩
      rw [g6, hitT, hl, Bool.false_and, Bool.false_or]
    | true =>
      have hl : lgl P H D kd x (15 - r) = true := e
      have hy := cnx_lt (tn := tn) hx hl
      rw [if_neg (show ¬ nI (if true = true then 1 else 0) = 0 by decide +kernel)]
      have hNE : NE N (HS τ n p kn f q st lm ah) n tn gl kn := ⟨h.2.1, by rw [HS_o (by have := h.1; omega)]; exact h.2.2.2.1, by rw [HS_o (by have := h.1; omega)]; exact h.2.2.2.2.1, HS_kn⟩
      rw [stateBehind_ok hNE h.2.2.2.2.2.1 hx hl]
      simp only [Option.bind_some]
      rw [and8191 hy]
      obtain ⟨f1, q1, st1, lm1, ah1, c1, c2, c3, c4⟩ := comeTo_ok (kn := kn) (y := cnx tn H D kd x (15 - r)) h hI hi hS hy (show 15 - r < 16 by omega) hv hb
      rw [hq] at c1
      rw [c1]
      simp only [Option.bind_some]
      have hcome := hI.come hi (by omega) (by rw [hq]; exact hl) (by rw [hq]; exact hy) (((hI.2.1 i hi).2.2).nx h6 (by rw [hq]; exact hl))
      rw [hq, e16] at hcome
      have hE : BS.ext S (bsC S i (cnx tn H D kd x (15 - r)) (15 - r)) := bsC_ext
      have hd : (bsC S i (cnx tn H D kd x (15 - r)) (15 - r)).dq i = S.dq i := (hE.2 i hi).2
      obtain ⟨f', q', st', lm', ah', S', g1, g2, g3, g4, g5, g6⟩ := ih t _ f1 q1 st1 lm1 ah1 (if v = 9000 then (if arT a0 (cnx tn H D kd x (15 - r)) then S.dq i + 1 else 9000) else v) (by omega) (by omega) hcome (by have := hE.1; omega) (by rw [(hE.2 i hi).1]; exact hq) c2 (by split <;> (try split) <;> omega) c4
      refine ⟨f', q', st', lm', ah', S', g1, g2, g3, hE.tr g4, fun j h1 h2 => by rw [g5 j h1 h2, c3 j h1 h2], ?_⟩
      rw [g6, hd, hitT, hl, Bool.true_and]
      by_cases cv : v = 9000
      · rw [if_pos cv, if_pos cv]
        cases ct : arT a0 (cnx tn H D kd x (15 - r)) with
        | true => rw [if_pos rfl, if_neg (show ¬ S.dq i + 1 = 9000 by omega), Bool.true_or, if_pos rfl]
        | false => rw [if_neg (show ¬ false = true by decide), if_pos rfl, Bool.false_or]
      · rw [if_neg cv, if_neg cv, if_neg cv]
/-- what is noted of the i-th -/
def NT (mm : Nat → Nat) (f : Nat → Int32) (S : BS) (i : Nat) : Prop := f 6 = nI (nR S i) ∧ f 7 = mI (fM S i) ∧ f 8 = nI (fF S i) ∧ f 9 = nI (dR mm S i)
theorem fM_le {S : BS} {mv : Nat → Nat → Bool} {nx : Nat → Nat → Nat} {V : Nat → Prop} {s0 i k : Nat} (hI : BI mv nx V s0 S i k) : ∀ j, j ≤ S.n → fM S j ≤ 8192 ∧ fF S j < 4096 := by
  have hn := hI.n_le
  intro j
  induction j with
  | zero => intro _; exact ⟨by rw [fM]; omega, by rw [fF]; omega⟩
  | succ j ih =>
    intro hj
    have hd := hI.dq_le j j (Nat.le_refl _) (by omega)
    obtain ⟨i1, i2⟩ := ih (by omega)
    have hq := Nat.mod_lt (S.q j) (show 0 < 4096 by omega)
    rw [fM, fF]
    constructor
    · split
      · exact i1
      · split <;> omega
    · split
      · exact i2
      · split
        · exact hq
        · split <;> omega
theorem seen_oth (h6 : D ≤ 6) {i : Nat} (hI : BI (lgl P H D kd) (cnx tn H D kd) (CV tn P D) s0 S i 0) (hi : i < S.n) : seen S i (S.q i % 4096) = true ↔ ∃ j, S.ix (S.q i ^^^ 4096) = some j ∧ S.dq j < S.dq i := by
  obtain ⟨q1, q2, q3⟩ := hI.2.1 i hi
  have hx := xor4096 q2
  have hxl : S.q i ^^^ 4096 < 8192 := by rw [hx]; split <;> omega
  rw [seen_iff]
  constructor
  · rintro ⟨j, j1, j2⟩
    obtain ⟨p1, p2, p3⟩ := hI.2.1 j (by omega)
    have hne : S.q j ≠ S.q i := fun e => by
      rw [e, q1] at p1
      have := Option.some.inj p1
      omega
    have hqj : S.q j = S.q i ^^^ 4096 := by rw [hx]; split <;> omega
    refine ⟨j, by rw [← hqj]; exact p1, ?_⟩
    have hle := hI.2.2.2.2.2.1 j i (by omega) hi
    cases tn with
    | true =>
      have a1 := BI.par (P := P) (H := H) (D := D) (kd := kd) hI j j (Nat.le_refl _) (by omega)
      have a2 := BI.par (P := P) (H := H) (D := D) (kd := kd) hI i i (Nat.le_refl _) hi
      by_cases c : S.dq j = S.dq i
      · rw [c, ← a2, hqj, hx] at a1
        split at a1 <;> omega
      · omega
    | false =>
      have b1 := p3.2 rfl
      have b2 := q3.2 rfl
      omega
  · rintro ⟨j, j1, j2⟩
    obtain ⟨p1, p2⟩ := hI.2.2.1 _ _ j1
    refine ⟨j, ?_, ?_⟩
    · by_cases c : j < i
      · exact c
      · have := hI.2.2.2.2.2.1 i j (by omega) p1
        omega
    · rw [p2, hx]; split <;> omega
theorem note_ok (h : CX N τ n p tn gl go P H D kd a0) {i : Nat} (hI : BI (lgl P H D kd) (cnx tn H D kd) (CV tn P D) s0 S i 0) (hi : i < S.n) (hS : SR f q st lm ah S) (hN : NT (mms P H D kd) f S i) : ∃ f', m_X6_noteArrangement N (HS τ n p kn f q st lm ah) p (nI (S.q i)) (nI (mms P H D kd (S.q i))) = some (HS τ n p kn f' q st lm ah) ∧ NT (mms P H D kd) f' S (i + 1) ∧ f' 5 = f 5 ∧ f' 10 = f 10 := by
  have h6 : D ≤ 6 := h.2.2.2.2.2.1.2.2.2.2.1
  obtain ⟨q1, q2, q3⟩ := hI.2.1 i hi
  have hx := xor4096 q2
  have hxl : S.q i ^^^ 4096 < 8192 := by rw [hx]; split <;> omega
  have hsx := SR.at hI hS hi
  have hn := hI.n_le
  have hd := hI.dq_le i i (Nat.le_refl _) hi
  have hm := mms_lt P H D kd (S.q i)
  obtain ⟨m1, m2⟩ := fM_le hI i (by omega)
  obtain ⟨n6, n7, n8, n9⟩ := hN
  have hso := seen_oth h6 hI hi
  have hz : ((if stI S (S.q i ^^^ 4096) = -1 then some (.inl ()) else if nI (S.dq i) ≤ stI S (S.q i ^^^ 4096) then some (.inl ()) else some (.inr (HS τ n p kn f q st lm ah))) : Option (Unit ⊕ Hp)) = some (if seen S i (S.q i % 4096) = true then .inr (HS τ n p kn f q st lm ah) else .inl ()) := by
    unfold stI
    cases e : S.ix (S.q i ^^^ 4096) with
    | none =>
      show (if (-1 : Int32) = -1 then _ else _) = _
      rw [if_pos rfl, if_neg (fun c => by obtain ⟨j, j1, _⟩ := hso.mp c; rw [e] at j1; exact absurd j1 (by simp))]
    | some j =>
      have hj := (hI.2.2.1 _ _ e).1
      have hdj := hI.dq_le j j (Nat.le_refl _) hj
      show (if nI (S.dq j) = -1 then _ else if nI (S.dq i) ≤ nI (S.dq j) then _ else _) = _
      rw [if_neg (nI_n1 (by omega))]
      by_cases c : S.dq j < S.dq i
      · rw [if_neg (show ¬ nI (S.dq i) ≤ nI (S.dq j) by rw [nI_leI (by omega) (by omega)]; omega), if_pos (hso.mpr ⟨j, e, c⟩)]
      · rw [if_pos (show nI (S.dq i) ≤ nI (S.dq j) by rw [nI_leI (by omega) (by omega)]; omega), if_neg (fun c' => by
          obtain ⟨j', j1, j2⟩ := hso.mp c'
          rw [e] at j1
          obtain rfl := Option.some.inj j1
          exact c j2)]
  unfold m_X6_noteArrangement
  rw [s_rv h, s_r2 h]
  simp only [Option.bind_some]
  rw [show nI (S.q i) ^^^ 4096 = nI (S.q i ^^^ 4096) from ni_xor _ 4096, s_ast h hxl, hS.2.2.1 _ hxl]
  simp only [Option.bind_some]
  rw [s_ast h q2, hsx]
  simp only [Option.bind_some]
  rw [hz]
  simp only [Option.bind_some]
  unfold NT
  rw [nR, fM, fF, dR]
  cases c : seen S i (S.q i % 4096) with
  | true =>
    refine ⟨f, rfl, ⟨?_, ?_, ?_, ?_⟩, rfl, rfl⟩
    · rw [n6]; rfl
    · rw [n7]; rfl
    · rw [n8]; rfl
    · rw [n9]; rfl
  | false =>
    rw [if_neg (show ¬ false = true by decide)]
    show ∃ f', ((gI N (HS τ n p kn f q st lm ah) p 6 6).bind fun x5 => _) = _ ∧ _
    rw [s_i h (by omega), n6]
    simp only [Option.bind_some]
    rw [s_p h (by omega), nI_1]
    simp only [Option.bind_some]
    have hz7 : ∃ f1, ((if nI (mms P H D kd (S.q i)) = 0 then (gI N (HS τ n p kn (upd f 6 (nI (nR S i + 1))) q st lm ah) p 6 9).bind fun x29 => (pV N (HS τ n p kn (upd f 6 (nI (nR S i + 1))) q st lm ah) p 6 9 (.int (x29 + 1))).bind fun σ30 => some σ30 else some (HS τ n p kn (upd f 6 (nI (nR S i + 1))) q st lm ah)) : Option Hp) = some (HS τ n p kn f1 q st lm ah) ∧ f1 6 = nI (nR S i + 1) ∧ f1 9 = nI (dR (mms P H D kd) S i + if mms P H D kd (S.q i) = 0 then 1 else 0) ∧ f1 7 = f 7 ∧ f1 8 = f 8 ∧ f1 5 = f 5 ∧ f1 10 = f 10 := by
      by_cases e : mms P H D kd (S.q i) = 0
      · rw [e, if_pos (show nI 0 = 0 from rfl), if_pos rfl, s_i h (by omega), upd_n (by decide), n9]
        simp only [Option.bind_some]
        rw [s_p h (by omega), nI_1]
        exact ⟨_, rfl, by rw [upd_n (by decide), upd_s], upd_s, by rw [upd_n (by decide), upd_n (by decide)], by rw [upd_n (by decide), upd_n (by decide)], by rw [upd_n (by decide), upd_n (by decide)], by rw [upd_n (by decide), upd_n (by decide)]⟩
      · rw [if_neg (nI_ne0 (by omega) (by omega)), if_neg e, Nat.add_zero]
        exact ⟨_, rfl, upd_s, by rw [upd_n (by decide)]; exact n9, upd_n (by decide), upd_n (by decide), upd_n (by decide), upd_n (by decide)⟩
    obtain ⟨f1, z1, z2, z3, z4, z5, z6, z7⟩ := hz7
    rw [z1]
    simp only [Option.bind_some]
    rw [s_r2 h, s_i h (by omega), z4, n7]
    simp only [Option.bind_some]
    rw [s_ast h q2, hsx, and4095 (by omega)]
    simp only [Option.bind_some]
    by_cases c1 : fM S i < S.dq i + 1
    · rw [if_pos ((mI_lt (by omega) (by omega)).mpr c1), s_p h (by omega)]
      simp only [Option.bind_some]
      rw [s_p h (by omega)]
      refine ⟨_, rfl, ⟨?_, ?_, ?_, ?_⟩, ?_, ?_⟩
      · rw [upd_n (by decide), upd_n (by decide), z2]; rfl
      · rw [upd_n (by decide), upd_s, if_neg (show ¬ false = true by decide), if_pos c1]
        unfold mI; rw [if_neg (show ¬ S.dq i + 1 = 0 by omega)]; rfl
      · rw [upd_s, if_neg (show ¬ false = true by decide), if_pos c1]
      · rw [upd_n (by decide), upd_n (by decide), z3]; rfl
      · rw [upd_n (by decide), upd_n (by decide), z6]
      · rw [upd_n (by decide), upd_n (by decide), z7]
    · rw [if_neg (fun e => c1 ((mI_lt (by omega) (by omega)).mp e))]
      have keep : ∃ f', some (HS τ n p kn f1 q st lm ah) = some (HS τ n p kn f' q st lm ah) ∧ f' = f1 := ⟨f1, rfl, rfl⟩
      by_cases c2 : fM S i = S.dq i + 1
      · rw [if_pos ((mI_eq (by omega) (by omega)).mpr c2), s_i h (by omega), z5, n8]
        simp only [Option.bind_some]
        by_cases c3 : S.q i % 4096 < fF S i
        · rw [if_neg (show ¬ nI (fF S i) ≤ nI (S.q i % 4096) by rw [nI_leI (by omega) (by omega)]; omega), s_p h (by omega)]
          simp only [Option.bind_some]
          rw [s_p h (by omega)]
          refine ⟨_, rfl, ⟨?_, ?_, ?_, ?_⟩, ?_, ?_⟩
          · rw [upd_n (by decide), upd_n (by decide), z2]; rfl
          · rw [upd_n (by decide), upd_s, if_neg (show ¬ false = true by decide), if_neg c1, c2]
            unfold mI; rw [if_neg (show ¬ S.dq i + 1 = 0 by omega)]; rfl
          · rw [upd_s, if_neg (show ¬ false = true by decide), if_neg c1, if_pos ⟨c2, c3⟩]
          · rw [upd_n (by decide), upd_n (by decide), z3]; rfl
          · rw [upd_n (by decide), upd_n (by decide), z6]
          · rw [upd_n (by decide), upd_n (by decide), z7]
        · rw [if_pos (show nI (fF S i) ≤ nI (S.q i % 4096) by rw [nI_leI (by omega) (by omega)]; omega)]
          refine ⟨f1, rfl, ⟨?_, ?_, ?_, ?_⟩, z6, z7⟩
          · rw [z2]; rfl
          · rw [z4, n7, if_neg (show ¬ false = true by decide), if_neg c1]
          · rw [z5, n8, if_neg (show ¬ false = true by decide), if_neg c1, if_neg (fun e => c3 e.2)]
          · rw [z3]; rfl
      · rw [if_neg (fun e => c2 ((mI_eq (by omega) (by omega)).mp e))]
        refine ⟨f1, rfl, ⟨?_, ?_, ?_, ?_⟩, z6, z7⟩
        · rw [z2]; rfl
        · rw [z4, n7, if_neg (show ¬ false = true by decide), if_neg c1]
        · rw [z5, n8, if_neg (show ¬ false = true by decide), if_neg c1, if_neg (fun e => c2 e.1)]
        · rw [z3]; rfl
end CSp
