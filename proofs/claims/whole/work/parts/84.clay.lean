/-! the class: layers -/
def lObj (a c n : Nat) (od : Int32) : va_E := .inr (3, [.ref a, .ref c, .ref n, .int od])
def LH (τ : Hp) (n l : Nat) (kn : Nat → Int32) (a c : Nat) (W C : Nat → Int64) (od : Int32) : Hp := fun i => if i = n + 2 then iR kn else if i = l then lObj a c n od else if i = a then lR W else if i = c then lR C else τ i
def LYX (N : Nat) (τ : Hp) (n l : Nat) (tn : Bool) (gl : Nat → Int32) (P H D : Nat) (kd : Nat → Nat) (a c : Nat) : Prop := (n + 3 ≤ l ∨ l + 3 ≤ n) ∧ n + 2 < N ∧ l + 2 < N ∧ (a = l + 1 ∧ c = l + 2 ∨ a = l + 2 ∧ c = l + 1) ∧ τ n = .inr (4, [.ref (n + 1), .ref (n + 2), .int (tI tn)]) ∧ τ (n + 1) = bC gl ∧ BL gl P H D kd
theorem LYX.sw {N : Nat} {τ : Hp} {n l : Nat} {tn : Bool} {gl : Nat → Int32} {P H D : Nat} {kd : Nat → Nat} {a c : Nat} (h : LYX N τ n l tn gl P H D kd a c) : LYX N τ n l tn gl P H D kd c a := ⟨h.1, h.2.1, h.2.2.1, h.2.2.2.1.symm.imp And.symm And.symm, h.2.2.2.2⟩
section Ly
variable {N n l a c : Nat} {τ : Hp} {tn : Bool} {gl kn : Nat → Int32} {P H D : Nat} {kd : Nat → Nat} {W C : Nat → Int64} {od : Int32}
theorem LH_kn : LH τ n l kn a c W C od (n + 2) = iR kn := if_pos rfl
theorem LH_l (h : LYX N τ n l tn gl P H D kd a c) : LH τ n l kn a c W C od l = lObj a c n od := by
  obtain ⟨h1, h2, h3, h4, _⟩ := h
  unfold LH; rw [if_neg (show ¬ l = n + 2 by omega), if_pos rfl]
theorem LH_a (h : LYX N τ n l tn gl P H D kd a c) : LH τ n l kn a c W C od a = lR W := by
  obtain ⟨h1, h2, h3, h4, _⟩ := h
  unfold LH; rw [if_neg (show ¬ a = n + 2 by omega), if_neg (show ¬ a = l by omega), if_pos rfl]
theorem LH_c (h : LYX N τ n l tn gl P H D kd a c) : LH τ n l kn a c W C od c = lR C := by
  obtain ⟨h1, h2, h3, h4, _⟩ := h
  unfold LH; rw [if_neg (show ¬ c = n + 2 by omega), if_neg (show ¬ c = l by omega), if_neg (show ¬ c = a by omega), if_pos rfl]
theorem LH_o {i : Nat} (h : i ≠ n + 2 ∧ i ≠ l ∧ i ≠ a ∧ i ≠ c) : LH τ n l kn a c W C od i = τ i := by
  unfold LH; rw [if_neg h.1, if_neg h.2.1, if_neg h.2.2.1, if_neg h.2.2.2]
theorem LH_ukn (g : Nat → Int32) : va_up (LH τ n l kn a c W C od) (n + 2) (iR g) = LH τ n l g a c W C od := by
  funext i
  by_cases e : i = n + 2
  · subst e; rw [vup_s, LH_kn]
  · rw [vup_n e]; unfold LH; rw [if_neg e, if_neg e]
theorem LH_uc (h : LYX N τ n l tn gl P H D kd a c) (g : Nat → Int64) : va_up (LH τ n l kn a c W C od) c (lR g) = LH τ n l kn a c W g od := by
  funext i
  by_cases e : i = c
  · subst e; rw [vup_s, LH_c h]
  · rw [vup_n e]; unfold LH; rw [if_neg e, if_neg e]
theorem LH_ua (h : LYX N τ n l tn gl P H D kd a c) (g : Nat → Int64) : va_up (LH τ n l kn a c W C od) a (lR g) = LH τ n l kn a c g C od := by
  funext i
  by_cases e : i = a
  · subst e; rw [vup_s, LH_a h]
  · rw [vup_n e]; unfold LH; rw [if_neg e, if_neg e]
theorem LH_sw (h : LYX N τ n l tn gl P H D kd a c) (od' : Int32) : va_up (LH τ n l kn a c W C od) l (lObj c a n od') = LH τ n l kn c a C W od' := by
  obtain ⟨h1, h2, h3, h4, _⟩ := h
  funext i
  by_cases e : i = l
  · subst e; rw [vup_s]; unfold LH; rw [if_neg (by omega), if_pos rfl]
  · rw [vup_n e]; unfold LH; rw [if_neg e, if_neg e]
    by_cases e1 : i = n + 2
    · rw [if_pos e1, if_pos e1]
    · rw [if_neg e1, if_neg e1]
      by_cases e2 : i = a
      · rw [if_pos e2, if_neg (show ¬ i = c by omega), if_pos e2]
      · rw [if_neg e2, if_neg e2]
theorem LH_od (h : LYX N τ n l tn gl P H D kd a c) (od' : Int32) : va_up (LH τ n l kn a c W C od) l (lObj a c n od') = LH τ n l kn a c W C od' := by
  obtain ⟨h1, h2, h3, h4, _⟩ := h
  funext i
  by_cases e : i = l
  · subst e; rw [vup_s]; unfold LH; rw [if_neg (by omega), if_pos rfl]
  · rw [vup_n e]; unfold LH; rw [if_neg e, if_neg e]
theorem LH_ne (h : LYX N τ n l tn gl P H D kd a c) : NE N (LH τ n l kn a c W C od) n tn gl kn := by
  obtain ⟨h1, h2, h3, h4, h5, h6, _⟩ := h
  exact ⟨h2, by rw [LH_o (by omega)]; exact h5, by rw [LH_o (by omega)]; exact h6, LH_kn⟩
theorem L_rv (h : LYX N τ n l tn gl P H D kd a c) : rv N (LH τ n l kn a c W C od) l 3 = some () := rv_of (by have := h.2.2.1; omega) (LH_l h)
theorem L_r0 (h : LYX N τ n l tn gl P H D kd a c) : gR N (LH τ n l kn a c W C od) l 3 0 = some a := gR_of (by have := h.2.2.1; omega) (LH_l h) rfl
theorem L_r1 (h : LYX N τ n l tn gl P H D kd a c) : gR N (LH τ n l kn a c W C od) l 3 1 = some c := gR_of (by have := h.2.2.1; omega) (LH_l h) rfl
theorem L_r2 (h : LYX N τ n l tn gl P H D kd a c) : gR N (LH τ n l kn a c W C od) l 3 2 = some n := gR_of (by have := h.2.2.1; omega) (LH_l h) rfl
theorem L_i3 (h : LYX N τ n l tn gl P H D kd a c) : gI N (LH τ n l kn a c W C od) l 3 3 = some od := gI_of (by have := h.2.2.1; omega) (LH_l h) rfl
theorem L_n0 (h : LYX N τ n l tn gl P H D kd a c) : gR N (LH τ n l kn a c W C od) n 4 0 = some (n + 1) := gR_of (fs := [.ref (n + 1), .ref (n + 2), .int (tI tn)]) (by have := h.2.1; omega) (LH_ne h).2.1 rfl
theorem L_n2 (h : LYX N τ n l tn gl P H D kd a c) : gI N (LH τ n l kn a c W C od) n 4 2 = some (tI tn) := gI_of (fs := [.ref (n + 1), .ref (n + 2), .int (tI tn)]) (by have := h.2.1; omega) (LH_ne h).2.1 rfl
theorem L_law (h : LYX N τ n l tn gl P H D kd a c) : BH N (LH τ n l kn a c W C od) (n + 1) gl := ⟨by have := h.2.1; omega, (LH_ne h).2.2.1⟩
theorem L_aa (h : LYX N τ n l tn gl P H D kd a c) {k : Nat} (hk : k < 4096) : aJ N (LH τ n l kn a c W C od) a (nI k) = some (W k) := aJ_of (n := 4096) (by have := h.2.2.1; have := h.2.2.2.1; omega) (LH_a h) hk (by omega)
theorem L_ac (h : LYX N τ n l tn gl P H D kd a c) {k : Nat} (hk : k < 4096) : aJ N (LH τ n l kn a c W C od) c (nI k) = some (C k) := aJ_of (n := 4096) (by have := h.2.2.1; have := h.2.2.2.1; omega) (LH_c h) hk (by omega)
theorem L_sc (h : LYX N τ n l tn gl P H D kd a c) {k : Nat} (hk : k < 4096) {v : Int64} : sJ N (LH τ n l kn a c W C od) c (nI k) v = some (LH τ n l kn a c W (vp_updL C k v) od) := by
  have hc : c < N := by have := h.2.2.1; have := h.2.2.2.1; omega
  rw [sJ_of (n := 4096) (f := C) hc (LH_c h) hk (by omega)]
  exact ofN (LH_uc h _)
/-- a row of longs filled -/
theorem fillJ_loop {N i : Nat} (hi : i < N) : ∀ (r t j : Nat) (τ : Hp) (g : Nat → Int64), j + r = 4096 → r < t → τ i = lR g → L_J7_fill_d0a16_6 N i 0 (nI 4096) t τ (nI j) = some (va_up τ i (lR (fun k => if j ≤ k ∧ k < 4096 then 0 else g k))) := by
  intro r
  induction r with
  | zero =>
    intro t j τ g hj ht h
    obtain ⟨t, rfl⟩ : ∃ k, t = k + 1 := ⟨t - 1, by omega⟩
    obtain rfl : j = 4096 := by omega
    rw [L_J7_fill_d0a16_6.eq_2, if_pos (nI_le (Nat.le_refl _) (by omega))]
    congr 1
    funext k
    by_cases e : k = i
    · subst e
      rw [vup_s, h]
      have : (fun k => if 4096 ≤ k ∧ k < 4096 then (0 : Int64) else g k) = g := funext (fun q => if_neg (by omega))
      rw [this]
    · rw [vup_n e]
  | succ r ih =>
    intro t j τ g hj ht h
    obtain ⟨t, rfl⟩ : ∃ k, t = k + 1 := ⟨t - 1, by omega⟩
    have e : (fun k => if j + 1 ≤ k ∧ k < 4096 then (0 : Int64) else vp_updL g j 0 k) = (fun k => if j ≤ k ∧ k < 4096 then 0 else g k) := by
      funext q
      by_cases e : q = j
      · subst e; rw [if_neg (show ¬ (q + 1 ≤ q ∧ q < 4096) by omega), updL_s, if_pos (show q ≤ q ∧ q < 4096 by omega)]
      · rw [updL_n e]
        by_cases c2 : j + 1 ≤ q ∧ q < 4096
        · rw [if_pos c2, if_pos (show j ≤ q ∧ q < 4096 by omega)]
        · rw [if_neg c2, if_neg (show ¬ (j ≤ q ∧ q < 4096) by omega)]
    rw [L_J7_fill_d0a16_6.eq_2, if_neg (nI_ge (by omega) (by omega)), sJ_of (n := 4096) (f := g) hi h (show j < 4096 by omega) (by omega)]
    simp only [Option.bind_some]
    rw [nI_1, show (.inl (1, 4096, .inr (.inl (vp_updL g j 0))) : va_E) = lR (vp_updL g j 0) from rfl, ih t (j + 1) _ (vp_updL g j 0) (by omega) (by omega) vup_s, vup_vup, e]
theorem fillJ_ok {N i : Nat} {τ : Hp} {g : Nat → Int64} (hi : i < N) (h : τ i = lR g) : ∃ g', m_J7_fill_d0a16 N τ i 0 = some (va_up τ i (lR g')) ∧ ∀ k, k < 4096 → g' k = 0 := by
  unfold m_J7_fill_d0a16
  rw [aN_of hi h (by omega)]
  simp only [Option.bind_some]
  have := fillJ_loop hi 4096 fu 0 τ g (by omega) (by decide) h
  rw [nI_0] at this
  rw [this]
  exact ⟨_, rfl, fun k hk => if_pos ⟨Nat.zero_le _, hk⟩⟩
end Ly
/-! the pure side -/
/-- the parity of the next layer -/
def odN (tn : Bool) (o : Nat) : Nat := if tn then 4096 - o else 0
theorem cnx_od {tn : Bool} {P H D : Nat} {kd : Nat → Nat} {a o k : Nat} (ha : a < 4096) (ho : o = 0 ∨ (o = 4096 ∧ tn = true)) (hl : lgl P H D kd (a + o) k = true) : cnx tn H D kd (a + o) k = bhd H D kd (a + o) k % 4096 + odN tn o := by
  have hx : a + o < 8192 := by omega
  have hp := bhd_par hx hl
  have hb := bhd_lt hx hl
  unfold cnx odN
  cases tn with
  | false => show bhd H D kd (a + o) k % 4096 = _ + 0; omega
  | true =>
    show bhd H D kd (a + o) k = bhd H D kd (a + o) k % 4096 + (4096 - o)
    rcases ho with rfl | ⟨rfl, _⟩ <;> omega
/-- the sum over the moves alone -/
def stq (mv : Nat → Nat → Bool) (nx : Nat → Nat → Nat) (c : Nat → Nat) (ch : Bool) (v : Nat → Nat) (x : Nat) : Nat := sgm (fun k => if mv x k then byw c ch x * v (nx x k) else 0) 16
def WtC (b : Nat → Int64) (W : Nat → Nat) : Prop := ∀ x, x < 4096 → b x = lN (W x)
theorem lgl_4 {P H D : Nat} {kd : Nat → Nat} {x k : Nat} (hP : P ≤ 4) (h : lgl P H D kd x k = true) : lgl 4 H D kd x k = true := by
  obtain ⟨h1, h2, h3, h4⟩ := (lgl_iff P H D kd x k).mp h
  exact (lgl_iff 4 H D kd x k).mpr ⟨h1, by omega, by omega, h4⟩
theorem VX_4 {D z o : Nat} (hD : D ≤ 6) (hz : z < 4 ^ D) (ho : o = 0 ∨ o = 4096) : VX 4 D (z + o) := by
  have h46 := pow4_6 hD
  have e : ∀ d, d < 6 → pgx (z + o) d = pgx z d := fun d hd => by
    rw [← pgx_mod (x := z + o) hd, show (z + o) % 4096 = z by omega]
  refine ⟨by omega, fun d hd => pgx_lt _ _, fun d hd h6 => ?_⟩
  rw [e d h6]
  unfold pgx
  rw [Nat.div_eq_of_lt (Nat.lt_of_lt_of_le hz (Nat.pow_le_pow_right (by omega) hd))]
section Lg
variable {N n l a c : Nat} {τ : Hp} {tn : Bool} {gl : Nat → Int32} {P H D : Nat} {kd : Nat → Nat} {od : Int32}
/-- a weight is handed on -/
theorem hand_3 (h : LYX N τ n l tn gl P H D kd a c) {kn : Nat → Int32} {W : Nat → Int64} {x o wt : Nat} (hx : x < 4096) (ho : o = 0 ∨ o = 4096) (hV : VX 4 D (x + o)) : ∀ (r t k : Nat) (C : Nat → Int64) (M : Nat → Nat), k + r = 16 → r < t → WtC C M → ∃ C' M', L_X3_hand_3 N l (nI x) (nI (mms P H D kd (x + o))) (lN wt) t (LH τ n l kn a c W C od) (nI k) = some (LH τ n l kn a c W C' od) ∧ WtC C' M' ∧ ∀ v : Nat → Nat, dot (4 ^ D) M' v + sgm (fun k => if lgl P H D kd (x + o) k then wt * v (bhd H D kd (x + o) k % 4096) else 0) k = dot (4 ^ D) M v + sgm (fun k => if lgl P H D kd (x + o) k then wt * v (bhd H D kd (x + o) k % 4096) else 0) 16 := by
  have hm := mms_lt P H D kd (x + o)
  have h6 : D ≤ 6 := h.2.2.2.2.2.2.2.2.2.2.1
  have hP4 : P ≤ 4 := h.2.2.2.2.2.2.2.2.2.1
  intro r
  induction r with
  | zero =>
    intro t k C M hk ht hM
    obtain ⟨t, rfl⟩ : ∃ k, t = k + 1 := ⟨t - 1, by omega⟩
    obtain rfl : k = 16 := by omega
    exact ⟨C, M, by rw [L_X3_hand_3.eq_2, if_pos (show (16 : Int32) ≤ nI 16 by decide +kernel)], hM, fun _ => rfl⟩
  | succ r ih =>
    intro t k C M hk ht hM
    obtain ⟨t, rfl⟩ : ∃ k, t = k + 1 := ⟨t - 1, by omega⟩
    rw [L_X3_hand_3.eq_2, if_neg (show ¬ (16 : Int32) ≤ nI k by rw [show (16 : Int32) = nI 16 from rfl, nI_leI (by omega) (by omega)]; omega), ni_bit (by omega) (by omega), tb_div, nI_1]
    cases e : (mms P H D kd (x + o)).testBit k with
    | false =>
      have hl : lgl P H D kd (x + o) k = false := e
      rw [if_pos (show nI (if false = true then 1 else 0) = 0 from rfl)]
      obtain ⟨C', M', g1, g2, g3⟩ := ih t (k + 1) C M (by omega) (by omega) hM
      refine ⟨C', M', g1, g2, fun v => ?_⟩
      have := g3 v
      rw [sgm, hl] at this
      exact this
    | true =>
      have hl : lgl P H D kd (x + o) k = true := e
      have hy : bhd H D kd (x + o) k % 4096 < 4 ^ D := (hV.nx h6 (lgl_4 hP4 hl)).lt4 h6
      have hy2 : bhd H D kd (x + o) k % 4096 < 4096 := Nat.mod_lt _ (by omega)
      rw [if_neg (show ¬ nI (if true = true then 1 else 0) = 0 by decide +kernel), L_r1 h, L_r2 h]
      simp only [Option.bind_some]
      rw [L_n0 h]
      simp only [Option.bind_some]
      have hbe := cbehind_ok (L_law h (kn := kn) (W := W) (C := C) (od := od)) h.2.2.2.2.2.2 hV.1 hl
      rw [show (x + o) % 4096 = x by omega] at hbe
      rw [hbe]
      simp only [Option.bind_some]
      rw [and4095 (by omega), Nat.mod_mod, L_ac h hy2, hM _ hy2]
      simp only [Option.bind_some]
      rw [L_sc h hy2, lN_add]
      simp only [Option.bind_some]
      obtain ⟨C', M', g1, g2, g3⟩ := ih t (k + 1) (vp_updL C (bhd H D kd (x + o) k % 4096) (lN (M (bhd H D kd (x + o) k % 4096) + wt))) (vu M (bhd H D kd (x + o) k % 4096) (M (bhd H D kd (x + o) k % 4096) + wt)) (by omega) (by omega) (fun z hz => by
        by_cases e : z = bhd H D kd (x + o) k % 4096
        · subst e; rw [updL_s, vu_s]
        · rw [updL_n e, vu_n e]; exact hM z hz)
      refine ⟨C', M', g1, g2, fun v => ?_⟩
      have := g3 v
      rw [dot_up hy, sgm, hl] at this
      simp only [if_true] at this
      omega
end Lg
