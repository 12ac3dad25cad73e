/-! the class: the net and the search -/
/-- the state behind a move as the class counts: without parity where it does not matter -/
def cnx (tn : Bool) (H D : Nat) (kd : Nat → Nat) (x k : Nat) : Nat := if tn then bhd H D kd x k else bhd H D kd x k % 4096
def cpi (tn : Bool) (x : Nat) : Nat := if tn then x else x % 4096
def CV (tn : Bool) (P D x : Nat) : Prop := VX P D x ∧ (tn = false → x < 4096)
/-- whether parity matters: a frail disc -/
def frl (D : Nat) (kd : Nat → Nat) (tn : Bool) : Prop := tn = false → ∀ d, d < D → kd d ≠ 5
section Qu
variable {tn : Bool} {P H D : Nat} {kd : Nat → Nat}
theorem mvr_mod (hD : D ≤ 6) (hk : ∀ d, d < D → kd d ≤ 5) (h5 : ∀ d, d < D → kd d ≠ 5) (x p q : Nat) : mvr H D kd (x % 4096) p q = mvr H D kd x p q := by
  unfold mvr
  rw [lset_mod hD, lset_mod hD]
  by_cases c : p = q ∨ low (lset x p D) = 6 ∨ low (lset x q D) < low (lset x p D)
  · rw [if_pos c, if_pos c]
  · rw [if_neg c, if_neg c]
    have hl := low_D hD (show low (lset x p D) ≠ 6 by omega)
    have h1 := hk _ hl.1
    have h2 := h5 _ hl.1
    have e : ∀ o o' : Bool, may H (kd (low (lset x p D))) (low (lset x p D)) p q (lset x q D) o = may H (kd (low (lset x p D))) (low (lset x p D)) p q (lset x q D) o' := fun o o' => by
      unfold may
      by_cases c4 : 4 ≤ kd (low (lset x p D))
      · have : kd (low (lset x p D)) = 4 := by omega
        rw [this]; simp
      · rw [decide_eq_false c4]; simp
    rw [e _ (decide (4096 ≤ x))]
theorem lgl_pi (hD : D ≤ 6) (hk : ∀ d, d < D → kd d ≤ 5) (hf : frl D kd tn) (x k : Nat) : lgl P H D kd (cpi tn x) k = lgl P H D kd x k := by
  unfold cpi
  cases tn with
  | true => rfl
  | false =>
    show lgl P H D kd (x % 4096) k = _
    apply Bool.eq_iff_iff.mpr
    rw [lgl_iff, lgl_iff, mvr_mod hD hk (hf rfl)]
theorem mms_pi (hD : D ≤ 6) (hk : ∀ d, d < D → kd d ≤ 5) (hf : frl D kd tn) (x : Nat) : mms P H D kd (cpi tn x) = mms P H D kd x := by
  apply Nat.eq_of_testBit_eq
  intro k
  exact lgl_pi hD hk hf x k
theorem cnx_pi (hD : D ≤ 6) (hk : ∀ d, d < D → kd d ≤ 5) (hf : frl D kd tn) {x k : Nat} (hx : x < 8192) (hl : lgl P H D kd x k = true) : cnx tn H D kd (cpi tn x) k = cpi tn (bhd H D kd x k) := by
  unfold cnx cpi
  cases tn with
  | true => rfl
  | false =>
    show bhd H D kd (x % 4096) k % 4096 = bhd H D kd x k % 4096
    have hl' : lgl P H D kd (x % 4096) k = true := by
      have := lgl_pi (tn := false) (P := P) (H := H) hD hk hf x k
      rw [show cpi false x = x % 4096 from rfl] at this
      rw [this]; exact hl
    rw [bhd_mod (P := P) (by omega) hl', bhd_mod (P := P) hx hl, mvr_mod hD hk (hf rfl), Nat.mod_mod]
theorem cnx_lt {x k : Nat} (hx : x < 8192) (hl : lgl P H D kd x k = true) : cnx tn H D kd x k < 8192 := by
  have := bhd_lt hx hl
  unfold cnx
  cases tn with
  | true => exact this
  | false => show bhd H D kd x k % 4096 < 8192; omega
theorem VX_mod {x : Nat} (hD : D ≤ 6) (h : VX P D x) : VX P D (x % 4096) := by
  refine ⟨by have := h.1; omega, fun d hd => ?_, fun d hd h6 => ?_⟩
  · rw [pgx_mod (by omega)]; exact h.2.1 d hd
  · rw [pgx_mod h6]; exact h.2.2 d hd h6
theorem CV.nx {x k : Nat} (hD : D ≤ 6) (h : CV tn P D x) (hl : lgl P H D kd x k = true) : CV tn P D (cnx tn H D kd x k) := by
  have hv := h.1.nx hD hl
  unfold cnx
  cases tn with
  | true => exact ⟨hv, fun e => absurd e (by decide)⟩
  | false => exact ⟨VX_mod hD hv, fun _ => by show bhd H D kd x k % 4096 < 4096; omega⟩
theorem cnx_mod {x k : Nat} : cnx tn H D kd x k % 4096 = bhd H D kd x k % 4096 := by
  unfold cnx
  cases tn with
  | true => rfl
  | false => show bhd H D kd x k % 4096 % 4096 = _; rw [Nat.mod_mod]
end Qu
/-! graphs and their images -/
section Mp
variable {mv mv' : Nat → Nat → Bool} {nx nx' : Nat → Nat → Nat} {pi : Nat → Nat} {V : Nat → Prop} {T : Nat → Bool}
theorem lsN_map (hv : ∀ x k, V x → k < 16 → mv x k = true → V (nx x k)) (h1 : ∀ x k, V x → k < 16 → mv' (pi x) k = mv x k) (h2 : ∀ x k, V x → k < 16 → mv x k = true → nx' (pi x) k = pi (nx x k)) (hT : ∀ x, T (pi x) = T x) {x : Nat} (hx : V x) : lsN mv' nx' T (pi x) = lsN mv nx T x := by
  unfold lsN
  congr 1
  funext r
  rw [cw_map hv h1 h2 r x hx]
  congr 1
  funext y
  exact hT y
theorem gmv_map (hv : ∀ x k, V x → k < 16 → mv x k = true → V (nx x k)) (h1 : ∀ x k, V x → k < 16 → mv' (pi x) k = mv x k) (h2 : ∀ x k, V x → k < 16 → mv x k = true → nx' (pi x) k = pi (nx x k)) (hT : ∀ x, T (pi x) = T x) (r : Nat) {x : Nat} (hx : V x) : gmv mv' nx' T r (pi x) = gmv mv nx T r x := by
  have key : ∀ n i, i + n = 16 → frst (fun k => mv' (pi x) k && cw mv' nx' T r (nx' (pi x) k)) n i = frst (fun k => mv x k && cw mv nx T r (nx x k)) n i := by
    intro n
    induction n with
    | zero => intro i _; rfl
    | succ n ih =>
      intro i hi
      have e : (mv' (pi x) i && cw mv' nx' T r (nx' (pi x) i)) = (mv x i && cw mv nx T r (nx x i)) := by
        rw [h1 x i hx (by omega)]
        cases c : mv x i with
        | false => rfl
        | true =>
          rw [h2 x i hx (by omega) c, cw_map hv h1 h2 r _ (hv x i hx (by omega) c), show (fun y => T (pi y)) = T from funext hT]
      rw [frst, frst, e, ih (i + 1) (by omega)]
  exact key 16 0 rfl
theorem fsx_map (hv : ∀ x k, V x → k < 16 → mv x k = true → V (nx x k)) (h1 : ∀ x k, V x → k < 16 → mv' (pi x) k = mv x k) (h2 : ∀ x k, V x → k < 16 → mv x k = true → nx' (pi x) k = pi (nx x k)) (hT : ∀ x, T (pi x) = T x) {x n : Nat} (hx : V x) (hn : cw mv nx T n x = true) : ∀ j, j ≤ n → V (fsx mv nx T n x j) ∧ fsx mv' nx' T n (pi x) j = pi (fsx mv nx T n x j) := by
  intro j
  induction j with
  | zero => intro _; exact ⟨hx, rfl⟩
  | succ j ih =>
    intro hj
    obtain ⟨i1, i2⟩ := ih (by omega)
    have hc := fsx_ok hn j (by omega)
    rw [show n - j = n - 1 - j + 1 by omega] at hc
    obtain ⟨m1, m2, _, _⟩ := gmv_ok hc
    rw [fsx, fsx, i2, gmv_map hv h1 h2 hT _ i1]
    exact ⟨hv _ _ i1 m1 m2, h2 _ _ i1 m1 m2⟩
theorem fsm_map (hv : ∀ x k, V x → k < 16 → mv x k = true → V (nx x k)) (h1 : ∀ x k, V x → k < 16 → mv' (pi x) k = mv x k) (h2 : ∀ x k, V x → k < 16 → mv x k = true → nx' (pi x) k = pi (nx x k)) (hT : ∀ x, T (pi x) = T x) {x n : Nat} (hx : V x) (hn : cw mv nx T n x = true) {j : Nat} (hj : j ≤ n) : fsm mv' nx' T n (pi x) j = fsm mv nx T n x j := by
  obtain ⟨i1, i2⟩ := fsx_map hv h1 h2 hT hx hn j hj
  unfold fsm
  rw [i2, gmv_map hv h1 h2 hT _ i1]
theorem bef_map (hv : ∀ x k, V x → k < 16 → mv x k = true → V (nx x k)) (h1 : ∀ x k, V x → k < 16 → mv' (pi x) k = mv x k) (h2 : ∀ x k, V x → k < 16 → mv x k = true → nx' (pi x) k = pi (nx x k)) (hT : ∀ x, T (pi x) = T x) {x : Nat} (hx : V x) : lsN mv' nx' (bef mv' nx' T) (pi x) = lsN mv nx (bef mv nx T) x := by
  unfold lsN
  congr 1
  funext r
  rw [← cw_bef, ← cw_bef, cw_map hv h1 h2 (r + 1) x hx, show (fun y => T (pi y)) = T from funext hT]
end Mp
