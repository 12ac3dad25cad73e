/-! the reference: world, ring -/
theorem bhd_par {P H D : Nat} {kd : Nat → Nat} {x k : Nat} (hx : x < 8192) (hk : lgl P H D kd x k = true) : bhd H D kd x k / 4096 = (x / 4096 + 1) % 2 := by
  obtain ⟨_, _, _, k4⟩ := (lgl_iff P H D kd x k).mp hk
  have h1 := nxt_odd hx k4 (Nat.mod_lt k (show 0 < 4 by omega))
  have h2 := nxt_lt hx k4 (Nat.mod_lt k (show 0 < 4 by omega))
  unfold bhd
  by_cases c : 4096 ≤ x
  · rw [decide_eq_true c] at h1
    have := of_decide_eq_false (h1.trans rfl)
    omega
  · rw [decide_eq_false c] at h1
    have := of_decide_eq_true (h1.trans rfl)
    omega
theorem BI.par {P H D : Nat} {kd : Nat → Nat} {s0 : Nat} {S : BS} {V : Nat → Prop} {i k : Nat} (h : BI (lgl P H D kd) (bhd H D kd) V s0 S i k) : ∀ n j, j ≤ n → j < S.n → S.q j / 4096 = (s0 / 4096 + S.dq j) % 2 := by
  obtain ⟨⟨h1, hq, h0, _⟩, h2, _, h4, _⟩ := h
  intro n
  induction n with
  | zero =>
    intro j hj hn
    obtain rfl : j = 0 := by omega
    have := (h2 0 hn).2.1
    rw [hq] at this
    rw [hq, h0]; omega
  | succ n ih =>
    intro j hj hn
    by_cases c : j = 0
    · subst c
      have := (h2 0 hn).2.1
      rw [hq] at this
      rw [hq, h0]; omega
    · obtain ⟨g1, g2, g3, g4, g5, _⟩ := h4 j (by omega) hn
      have e := ih (S.pq j) (by omega) (by omega)
      rw [← g4, bhd_par (h2 (S.pq j) (by omega)).2.1 g3, e, g5]
      omega
/-- steps to an arrangement -/
def Lx (bd : AB) (x : Nat) : Nat := lsN (lgl bd.P bd.H bd.D bd.kd) (bhd bd.H bd.D bd.kd) (arT x) (stx bd)
/-- the state in which it is come to first -/
def fsS (bd : AB) (x : Nat) : Nat := x + 4096 * ((stx bd / 4096 + Lx bd x) % 2)
def wN (bd : AB) (n : Nat) : Nat := sgm (fun x => if Lx bd x < 8192 then 1 else 0) n
def wD (bd : AB) (n : Nat) : Nat := sgm (fun x => if Lx bd x < 8192 ∧ mms bd.P bd.H bd.D bd.kd (fsS bd x) = 0 then 1 else 0) n
/-- one more than the greatest of the steps to what can be come to -/
def mx1 (bd : AB) : Nat → Nat
  | 0 => 0
  | n + 1 => if Lx bd n < 8192 ∧ mx1 bd n < Lx bd n + 1 then Lx bd n + 1 else mx1 bd n
/-- the first that is so far -/
def faR (bd : AB) : Nat → Nat
  | 0 => 0
  | n + 1 => if Lx bd n < 8192 ∧ mx1 bd n < Lx bd n + 1 then n else faR bd n
theorem faR_spec (bd : AB) : ∀ n, (∀ y, y < n → Lx bd y < 8192 → Lx bd y + 1 ≤ mx1 bd n) ∧ (mx1 bd n ≠ 0 → faR bd n < n ∧ Lx bd (faR bd n) < 8192 ∧ Lx bd (faR bd n) + 1 = mx1 bd n ∧ ∀ y, y < faR bd n → Lx bd y < 8192 → Lx bd y + 1 < mx1 bd n) ∧ (mx1 bd n = 0 → faR bd n = 0) := by
  intro n
  induction n with
  | zero => exact ⟨fun y hy => absurd hy (by omega), fun h => absurd rfl h, fun _ => rfl⟩
  | succ n ih =>
    obtain ⟨i1, i2, i3⟩ := ih
    rw [mx1, faR]
    by_cases c : Lx bd n < 8192 ∧ mx1 bd n < Lx bd n + 1
    · rw [if_pos c, if_pos c]
      refine ⟨fun y hy hl => ?_, fun _ => ⟨by omega, c.1, rfl, fun y hy hl => ?_⟩, fun h => absurd h (by omega)⟩
      · by_cases e : y = n
        · subst e; omega
        · have := i1 y (by omega) hl; omega
      · have := i1 y hy hl; omega
    · rw [if_neg c, if_neg c]
      refine ⟨fun y hy hl => ?_, fun h => ?_, i3⟩
      · by_cases e : y = n
        · subst e; omega
        · exact i1 y (by omega) hl
      · obtain ⟨a1, a2, a3, a4⟩ := i2 h
        exact ⟨by omega, a2, a3, a4⟩
theorem mx1_le (bd : AB) (n : Nat) : mx1 bd n ≤ 8192 := by
  induction n with
  | zero => exact Nat.zero_le _
  | succ n ih => rw [mx1]; split <;> omega
/-- of two arrangements the one with the less number has the less code -/
theorem cod_lt {x y D : Nat} (hx : x < 4 ^ D) (hy : y < 4 ^ D) (h : x < y) : cod x D < cod y D := by
  have key : ∀ r, r ≤ D → (x / 4 ^ (D - r) < y / 4 ^ (D - r) → cdR x D r < cdR y D r) ∧ (x / 4 ^ (D - r) = y / 4 ^ (D - r) → cdR x D r = cdR y D r) := by
    intro r
    induction r with
    | zero =>
      intro _
      rw [Nat.sub_zero, Nat.div_eq_of_lt hx, Nat.div_eq_of_lt hy]
      exact ⟨fun h => absurd h (by omega), fun _ => rfl⟩
    | succ r ih =>
      intro hr
      obtain ⟨i1, i2⟩ := ih (by omega)
      have e : ∀ z, z / 4 ^ (D - r) = z / 4 ^ (D - (r + 1)) / 4 := fun z => by
        rw [show D - r = (D - (r + 1)) + 1 by omega, Nat.pow_succ, Nat.div_div_eq_div_mul]
      rw [e x, e y] at i1 i2
      have p1 : pgx x (D - (r + 1)) = x / 4 ^ (D - (r + 1)) % 4 := rfl
      have p2 : pgx y (D - (r + 1)) = y / 4 ^ (D - (r + 1)) % 4 := rfl
      rw [cdR, cdR, p1, p2]
      generalize x / 4 ^ (D - (r + 1)) = X at *
      generalize y / 4 ^ (D - (r + 1)) = Y at *
      constructor
      · intro hl
        by_cases c : X / 4 < Y / 4
        · have := i1 c; omega
        · have := i2 (by omega); omega
      · intro he; subst he
        rw [i2 rfl]
  have := (key D (Nat.le_refl _)).1
  rw [Nat.sub_self, Nat.pow_zero, Nat.div_one, Nat.div_one] at this
  exact this h
theorem VX.lt4 {P D x : Nat} (hD : D ≤ 6) (h : VX P D x) : x % 4096 < 4 ^ D := by
  have key : ∀ r, r ≤ 6 - D → x % 4096 < 4 ^ (6 - r) := by
    intro r
    induction r with
    | zero => intro _; exact Nat.mod_lt _ (by omega)
    | succ r ih =>
      intro hr
      have h1 := ih (by omega)
      have h2 := h.2.2 (6 - (r + 1)) (by omega) (by omega)
      have h3 : pgx (x % 4096) (6 - (r + 1)) = 0 := by
        rw [← h2]
        unfold pgx
        rcases (show r = 0 ∨ r = 1 ∨ r = 2 ∨ r = 3 ∨ r = 4 ∨ r = 5 by omega) with rfl | rfl | rfl | rfl | rfl | rfl <;> omega
      unfold pgx at h3
      rw [show 6 - r = (6 - (r + 1)) + 1 by omega, Nat.pow_succ] at h1
      have h4 : x % 4096 / 4 ^ (6 - (r + 1)) < 4 := (Nat.div_lt_iff_lt_mul (Nat.pow_pos (by omega))).mpr (by rw [Nat.mul_comm]; exact h1)
      have h5 : x % 4096 / 4 ^ (6 - (r + 1)) = 0 := by rw [← Nat.mod_eq_of_lt h4]; exact h3
      exact (Nat.div_eq_zero_iff_lt (Nat.pow_pos (by omega))).mp h5
  have := key (6 - D) (Nat.le_refl _)
  rw [show 6 - (6 - D) = D by omega] at this
  exact this
/-- what is said of an arrangement that is come to -/
theorem Lx_at {bd : AB} {S : BS} (h : BI (lgl bd.P bd.H bd.D bd.kd) (bhd bd.H bd.D bd.kd) (VX bd.P bd.D) (stx bd) S S.n 0) {x : Nat} (hx : x < 4096) (hl : Lx bd x < 8192) : ∃ j, j < S.n ∧ S.q j = fsS bd x ∧ S.dq j = Lx bd x ∧ ∀ j', j' < S.n → S.q j' % 4096 = x → S.dq j ≤ S.dq j' := by
  rcases h.pick (fun j => arT x (S.q j)) with ⟨j, j1, j2, j3⟩ | hno
  · have hL : Lx bd x = S.dq j := h.least (T := arT x) j1 j2 (fun j' a1 a2 => (j3 j' a1 a2).2)
    have hp := h.par j j (Nat.le_refl _) j1
    have hq := (h.2.1 j j1).2.1
    have hxj : S.q j % 4096 = x := by unfold arT at j2; exact eq_of_beq j2
    refine ⟨j, j1, ?_, hL.symm, fun j' a1 a2 => (j3 j' a1 (by unfold arT; rw [a2, beq_self_eq_true])).2⟩
    unfold fsS
    rw [hL, ← hp]
    omega
  · exact absurd (h.none (T := arT x) hno) (by unfold Lx at hl; omega)
theorem Lx_of {bd : AB} {S : BS} (h : BI (lgl bd.P bd.H bd.D bd.kd) (bhd bd.H bd.D bd.kd) (VX bd.P bd.D) (stx bd) S S.n 0) {j : Nat} (hj : j < S.n) : Lx bd (S.q j % 4096) ≤ S.dq j ∧ Lx bd (S.q j % 4096) < 8192 := by
  rcases h.pick (fun i => arT (S.q j % 4096) (S.q i)) with ⟨i, j1, j2, j3⟩ | hno
  · have hL : Lx bd (S.q j % 4096) = S.dq i := h.least (T := arT (S.q j % 4096)) j1 j2 (fun j' a1 a2 => (j3 j' a1 a2).2)
    have := (j3 j hj (by unfold arT; exact beq_self_eq_true _)).2
    have hn := h.n_le
    have hd := h.dq_le i i (Nat.le_refl _) j1
    omega
  · have := hno j hj
    unfold arT at this
    rw [beq_self_eq_true] at this
    exact absurd this (by decide)
/-- one less than a number, -1 for 0 -/
def mI (n : Nat) : Int32 := if n = 0 then -1 else nI (n - 1)
theorem mI_lt {n d : Nat} (hn : n < 2 ^ 30) (hd : d < 2 ^ 30) : mI n < nI d ↔ n < d + 1 := by
  unfold mI
  by_cases c : n = 0
  · rw [if_pos c, Int32.lt_iff_toInt_lt, nI_toInt (by omega), show (-1 : Int32).toInt = -1 from rfl]; omega
  · rw [if_neg c, nI_ltI (by omega) (by omega)]; omega
theorem mI_eq {n d : Nat} (hn : n < 2 ^ 30) (hd : d < 2 ^ 30) : nI d = mI n ↔ n = d + 1 := by
  unfold mI
  by_cases c : n = 0
  · rw [if_pos c]
    constructor
    · intro e; exact absurd e (nI_n1 (by omega))
    · intro e; omega
  · rw [if_neg c, nI_eq (by omega) (by omega)]; omega
def o_world (s : AS) (w : Int32) : Int32 :=
  if s.bd.P = 0 then -1000002 else if 0 ≤ w ∧ w ≤ 3 then (if w = 0 then nI (wN s.bd 4096) else if w = 1 then mI (mx1 s.bd 4096) else if w = 2 then nI (cod (faR s.bd 4096) s.bd.D) else nI (wD s.bd 4096)) else -1000001
section MW
variable {N m : Nat} {f : Nat → Int32} {a : Nat → Nat → Int32} {b : Nat → Nat → Int64} {s : AS} {σ : Hp} {bd : AB} {S : BS}
theorem world_loop (hN : 66 ≤ N) (hI : BI (lgl bd.P bd.H bd.D bd.kd) (bhd bd.H bd.D bd.kd) (VX bd.P bd.D) (stx bd) S S.n 0) (hH : HB f a S) (hT : Told f (a 58) bd.P bd.H bd.D bd.kd) (hs : stx bd < 8192) (v1 : Int32) : ∀ (r t x : Nat), x + r = 4096 → r < t → L_X9_world_42 N (MH σ f a b) 53 v1 t (nI (wN bd x)) (mI (mx1 bd x)) (nI (cod (faR bd x) bd.D)) (nI (wD bd x)) (nI x) = some (nI (wN bd 4096), mI (mx1 bd 4096), nI (cod (faR bd 4096) bd.D), nI (wD bd 4096)) := by
  have h6 : bd.D ≤ 6 := hT.2.2.2.1
  have hD : a 58 2 = nI bd.D := hT.2.1
  have hn := hI.n_le
  intro r
  induction r with
  | zero =>
    intro t x hx ht
    obtain ⟨t, rfl⟩ : ∃ k, t = k + 1 := ⟨t - 1, by omega⟩
    obtain rfl : x = 4096 := by omega
    rw [L_X9_world_42.eq_2, if_pos (show (4096 : Int32) ≤ nI 4096 by decide +kernel)]
  | succ r ih =>
    intro t x hx ht
    obtain ⟨t, rfl⟩ : ∃ k, t = k + 1 := ⟨t - 1, by omega⟩
    have hrec := ih t (x + 1) (by omega) (by omega)
    have hft : m_X9_farTo N (MH σ f a b) 53 (nI x) = some (farI (Lx bd x)) := farTo_ok hN hI hH (by omega)
    have hLle : Lx bd x ≤ 8192 := by have := (frst_spec (p := fun r => cw (lgl bd.P bd.H bd.D bd.kd) (bhd bd.H bd.D bd.kd) (arT x) r (stx bd)) 8192 0).2.1; rw [Nat.zero_add] at this; exact this
    have eN : wN bd (x + 1) = wN bd x + (if Lx bd x < 8192 then 1 else 0) := rfl
    have eD : wD bd (x + 1) = wD bd x + (if Lx bd x < 8192 ∧ mms bd.P bd.H bd.D bd.kd (fsS bd x) = 0 then 1 else 0) := rfl
    have eM : mx1 bd (x + 1) = if Lx bd x < 8192 ∧ mx1 bd x < Lx bd x + 1 then Lx bd x + 1 else mx1 bd x := rfl
    have eF : faR bd (x + 1) = if Lx bd x < 8192 ∧ mx1 bd x < Lx bd x + 1 then x else faR bd x := rfl
    rw [L_X9_world_42.eq_2, if_neg (show ¬ (4096 : Int32) ≤ nI x by rw [show (4096 : Int32) = nI 4096 from rfl, nI_leI (by omega) (by omega)]; omega), hft]
    simp only [Option.bind_some]
    unfold farI
    by_cases c : Lx bd x = 8192
    · rw [if_pos c, if_pos (show (-1 : Int32) < 0 by decide +kernel), nI_1]
      have n1 : ¬ Lx bd x < 8192 := by omega
      have n2 : ¬ (Lx bd x < 8192 ∧ mms bd.P bd.H bd.D bd.kd (fsS bd x) = 0) := fun e => n1 e.1
      have n3 : ¬ (Lx bd x < 8192 ∧ mx1 bd x < Lx bd x + 1) := fun e => n1 e.1
      rw [eN, eD, eM, eF, if_neg n1, if_neg n2, if_neg n3, if_neg n3, Nat.add_zero, Nat.add_zero] at hrec
      exact hrec
    · have hl : Lx bd x < 8192 := by omega
      obtain ⟨j, j1, j2, j3, j4⟩ := Lx_at hI (show x < 4096 by omega) hl
      have hM := mx1_le bd x
      obtain ⟨f1, f2, f3⟩ := faR_spec bd x
      have q2 := (hI.2.1 j j1).2.1
      rw [if_neg c, if_neg (nI_nlt0 (by omega)), MH_r13 hN]
      simp only [Option.bind_some]
      rw [MH_a60 hN (by omega)]
      simp only [Option.bind_some]
      -- the state in which it is come to first
      have hfirst : ((if a 60 x = nI (Lx bd x) then some (nI x) else some (nI x + 4096)) : Option Int32) = some (nI (fsS bd x)) := by
        by_cases c2 : (stx bd / 4096 + Lx bd x) % 2 = 0
        · have e : fsS bd x = x := by unfold fsS; rw [c2]; omega
          rw [e] at j2
          have : a 60 x = nI (Lx bd x) := by
            have e3 := hH.2.2 _ q2
            rw [(hI.2.1 j j1).1, j2] at e3
            rw [e3, ← j3]
          rw [if_pos this, e]
        · have e : fsS bd x = x + 4096 := by unfold fsS; omega
          have hne : ¬ a 60 x = nI (Lx bd x) := fun e2 => by
            rw [hH.2.2 x (by omega)] at e2
            cases ei : S.ix x with
            | none => rw [ei] at e2; exact nI_n1 (by omega) e2.symm
            | some j' =>
              rw [ei] at e2
              obtain ⟨k1, k2⟩ := hI.2.2.1 _ _ ei
              have hd := hI.dq_le j' j' (Nat.le_refl _) k1
              have := (nI_eq (by omega) (by omega)).mp e2
              have hp := hI.par j' j' (Nat.le_refl _) k1
              rw [k2, this] at hp
              omega
          rw [if_neg hne, e, show nI x + 4096 = nI (x + 4096) from nI_add x 4096]
      rw [hfirst]
      simp only [Option.bind_some]
      have hfs : fsS bd x < 8192 := by rw [← j2]; exact q2
      have hVj := (hI.2.1 j j1).2.2
      have hx4 : x < 4 ^ bd.D := by
        have := hVj.lt4 h6
        rw [j2] at this
        unfold fsS at this
        rw [show (x + 4096 * ((stx bd / 4096 + Lx bd x) % 2)) % 4096 = x by omega] at this
        exact this
      have hcode : m_X9_codeOf N (MH σ f a b) 53 (nI x) = some (nI (cod x bd.D)) := codeOf_ok hN hD h6 (by omega)
      have hc7 : ∀ z, cod z bd.D < 2 ^ 31 := fun z => by
        have : cod z bd.D < 10 ^ bd.D := cdR_lt z bd.D bd.D
        have h2 : 10 ^ bd.D ≤ 10 ^ 6 := Nat.pow_le_pow_right (by omega) h6
        exact Nat.lt_of_lt_of_le this (Nat.le_trans h2 (by decide))
      have hz12 : ((if mI (mx1 bd x) < nI (Lx bd x) then (m_X9_codeOf N (MH σ f a b) 53 (nI x)).bind fun r19 => some r19 else if nI (Lx bd x) = mI (mx1 bd x) then (m_X9_codeOf N (MH σ f a b) 53 (nI x)).bind fun r21 => if nI (cod (faR bd x) bd.D) ≤ r21 then some (nI (cod (faR bd x) bd.D)) else (m_X9_codeOf N (MH σ f a b) 53 (nI x)).bind fun r23 => some r23 else some (nI (cod (faR bd x) bd.D))) : Option Int32) = some (nI (cod (faR bd (x + 1)) bd.D)) := by
        rw [hcode, eF]
        simp only [Option.bind_some]
        by_cases c2 : mx1 bd x < Lx bd x + 1
        · have hp : Lx bd x < 8192 ∧ mx1 bd x < Lx bd x + 1 := ⟨hl, c2⟩
          have hq : mI (mx1 bd x) < nI (Lx bd x) := (mI_lt (by omega) (by omega)).mpr c2
          rw [if_pos hq, if_pos hp]
        · have hp : ¬ (Lx bd x < 8192 ∧ mx1 bd x < Lx bd x + 1) := fun e => c2 e.2
          have hq : ¬ mI (mx1 bd x) < nI (Lx bd x) := fun e => c2 ((mI_lt (by omega) (by omega)).mp e)
          rw [if_neg hq, if_neg hp]
          by_cases c3 : mx1 bd x = Lx bd x + 1
          · obtain ⟨a1, a2, a3, a4⟩ := f2 (by omega)
            have hf4 : faR bd x < 4 ^ bd.D := Nat.lt_trans a1 hx4
            have := cod_lt hf4 hx4 a1
            have he : nI (Lx bd x) = mI (mx1 bd x) := (mI_eq (by omega) (by omega)).mpr c3
            rw [if_pos he, if_pos (show nI (cod (faR bd x) bd.D) ≤ nI (cod x bd.D) by rw [nI_leI (hc7 _) (hc7 _)]; omega)]
          · have he : ¬ nI (Lx bd x) = mI (mx1 bd x) := fun e => c3 ((mI_eq (by omega) (by omega)).mp e)
            rw [if_neg he]
      rw [hz12]
      simp only [Option.bind_some]
      have hlg : m_X9_larger (mI (mx1 bd x)) (nI (Lx bd x)) = some (mI (mx1 bd (x + 1))) := by
        unfold m_X9_larger
        rw [eM]
        by_cases c2 : mx1 bd x < Lx bd x + 1
        · have hp : Lx bd x < 8192 ∧ mx1 bd x < Lx bd x + 1 := ⟨hl, c2⟩
          have hq : ¬ nI (Lx bd x) ≤ mI (mx1 bd x) := fun e => by
            have := (mI_lt (n := mx1 bd x) (d := Lx bd x) (by omega) (by omega)).mpr c2
            rw [Int32.lt_iff_toInt_lt] at this
            rw [Int32.le_iff_toInt_le] at e
            omega
          rw [if_pos hp, if_neg hq]
          unfold mI; rw [if_neg (show ¬ Lx bd x + 1 = 0 by omega)]; rfl
        · have hp : ¬ (Lx bd x < 8192 ∧ mx1 bd x < Lx bd x + 1) := fun e => c2 e.2
          have hq : nI (Lx bd x) ≤ mI (mx1 bd x) := by
            have : ¬ mI (mx1 bd x) < nI (Lx bd x) := fun e => c2 ((mI_lt (by omega) (by omega)).mp e)
            rw [Int32.lt_iff_toInt_lt] at this
            rw [Int32.le_iff_toInt_le]
            omega
          rw [if_neg hp, if_pos hq]
      rw [hlg]
      simp only [Option.bind_some]
      rw [movesOf_ok hN hT hfs]
      simp only [Option.bind_some]
      have hm := mms_lt bd.P bd.H bd.D bd.kd (fsS bd x)
      rw [nI_1, nI_1, nI_1]
      rw [eN, if_pos hl] at hrec
      by_cases c3 : mms bd.P bd.H bd.D bd.kd (fsS bd x) = 0
      · rw [c3, if_pos nI_0]
        have n2 : Lx bd x < 8192 ∧ mms bd.P bd.H bd.D bd.kd (fsS bd x) = 0 := ⟨hl, c3⟩
        rw [eD, if_pos n2] at hrec
        exact hrec
      · rw [if_neg (nI_ne0 (by omega) (by omega)), show nI (wD bd x) + 0 = nI (wD bd x + 0) from nI_add _ 0]
        have n2 : ¬ (Lx bd x < 8192 ∧ mms bd.P bd.H bd.D bd.kd (fsS bd x) = 0) := fun e => c3 e.2
        rw [eD, if_neg n2] at hrec
        exact hrec
theorem mo_world (hN : 66 ≤ N) (h : RM f a s) (hv : VA m s) (hm : m < 2 ^ 30) (w : Int32) : MOp N f a b (fun σ => m_X9_world N σ 53 w) (o_world s w) s := by
  intro σ
  show ∃ f' a' b', m_X9_world N (MH σ f a b) 53 w = _ ∧ _
  have hV := hv.2.2.1
  unfold m_X9_world o_world
  rw [MH_rv hN, isBoard_ok hN h hv]
  simp only [Option.bind_some, ite01]
  by_cases c1 : s.bd.P = 0
  · rw [if_pos c1, if_pos c1]; exact ⟨f, a, b, rfl, h⟩
  rw [if_neg c1, if_neg c1, show (0 : Int64) = (0 : Int32).toInt64 by decide +kernel, show (3 : Int64) = (3 : Int32).toInt64 by decide +kernel, i64_in]
  simp only [Option.bind_some, ite10]
  by_cases c2 : 0 ≤ w ∧ w ≤ 3
  · rw [if_pos c2, if_pos c2]
    obtain ⟨f1, a1, S, g1, g2, g3, g4, g5⟩ := spreads_ok (N := N) (f := f) (b := b) (σ := σ) hN h.2.2.2.2.1 hV (nb_ne c1) hm
    have hR := h.frs g2
    have hl := world_loop (N := N) (σ := σ) (b := b) hN g3 g4 g5 (stx_lt hV) w 4096 fu 0 (by omega) (by decide)
    have e0 : cod (faR s.bd 0) s.bd.D = 0 := by
      have : ∀ D r, cdR 0 D r = 0 := fun D r => by
        induction r with
        | zero => rfl
        | succ r ih => rw [cdR, ih]; unfold pgx; rw [Nat.zero_div]
      exact this _ _
    rw [show wN s.bd 0 = 0 from rfl, show mx1 s.bd 0 = 0 from rfl, show wD s.bd 0 = 0 from rfl, e0, nI_0, show mI 0 = -1 from rfl] at hl
    rw [g1]
    simp only [Option.bind_some]
    rw [hl]
    simp only [Option.bind_some]
    by_cases w0 : w = 0
    · rw [if_pos w0, if_pos w0]; exact ⟨f1, a1, b, rfl, hR⟩
    · rw [if_neg w0, if_neg w0]
      by_cases w1 : w = 1
      · rw [if_pos w1, if_pos w1]; exact ⟨f1, a1, b, rfl, hR⟩
      · rw [if_neg w1, if_neg w1]
        by_cases w2 : w = 2
        · rw [if_pos w2, if_pos w2]; exact ⟨f1, a1, b, rfl, hR⟩
        · rw [if_neg w2, if_neg w2]; exact ⟨f1, a1, b, rfl, hR⟩
  · rw [if_neg c2, if_neg c2]; exact ⟨f, a, b, rfl, h⟩
/-- how many moves a ring has at least, less one; 8192: there is none -/
def rgN (bd : AB) : Nat := lsN (lgl bd.P bd.H bd.D bd.kd) (bhd bd.H bd.D bd.kd) (bef (lgl bd.P bd.H bd.D bd.kd) (bhd bd.H bd.D bd.kd) (arT (stx bd % 4096))) (stx bd)
def o_ring (s : AS) : Int32 := if s.bd.P = 0 then -1000002 else if rgN s.bd = 8192 then -1000000 else nI (rgN s.bd + 1)
/-- a number, 9000 for none -/
def n9 (x : Nat) : Int32 := if x = 9000 then -1 else nI x
/-- the least so far: of the first i those that lead back to the start in one move -/
def rgR (mv : Nat → Nat → Bool) (nx : Nat → Nat → Nat) (S : BS) (s0 F : Nat) : Nat → Nat
  | 0 => F
  | i + 1 => if bef mv nx (fun y => y == s0) (S.q i) = true ∧ S.dq i + 1 < rgR mv nx S s0 F i then S.dq i + 1 else rgR mv nx S s0 F i
theorem rgR_le (mv : Nat → Nat → Bool) (nx : Nat → Nat → Nat) (S : BS) (s0 F i : Nat) (h : F ≤ 9000) : rgR mv nx S s0 F i ≤ 9000 := by
  induction i with
  | zero => exact h
  | succ i ih => rw [rgR]; split <;> omega
theorem rgR_spec (mv : Nat → Nat → Bool) (nx : Nat → Nat → Nat) (S : BS) (s0 F : Nat) : ∀ i, rgR mv nx S s0 F i ≤ F ∧ (∀ j, j < i → bef mv nx (fun y => y == s0) (S.q j) = true → rgR mv nx S s0 F i ≤ S.dq j + 1) ∧ (rgR mv nx S s0 F i = F ∨ ∃ j, j < i ∧ bef mv nx (fun y => y == s0) (S.q j) = true ∧ rgR mv nx S s0 F i = S.dq j + 1) := by
  intro i
  induction i with
  | zero => exact ⟨Nat.le_refl _, fun j hj => absurd hj (by omega), Or.inl rfl⟩
  | succ i ih =>
    obtain ⟨i1, i2, i3⟩ := ih
    rw [rgR]
    by_cases c : bef mv nx (fun y => y == s0) (S.q i) = true ∧ S.dq i + 1 < rgR mv nx S s0 F i
    · rw [if_pos c]
      refine ⟨by omega, fun j hj hb => ?_, Or.inr ⟨i, by omega, c.1, rfl⟩⟩
      by_cases e : j = i
      · subst e; omega
      · have := i2 j (by omega) hb; omega
    · rw [if_neg c]
      refine ⟨i1, fun j hj hb => ?_, ?_⟩
      · by_cases e : j = i
        · subst e
          by_cases c2 : S.dq j + 1 < rgR mv nx S s0 F j
          · exact absurd ⟨hb, c2⟩ c
          · omega
        · exact i2 j (by omega) hb
      · rcases i3 with e | ⟨j, h1, h2⟩
        · exact Or.inl e
        · exact Or.inr ⟨j, by omega, h2⟩
end MW
