/-! sums and weights -/
def sgm (f : Nat → Nat) : Nat → Nat
  | 0 => 0
  | n + 1 => sgm f n + f n
theorem sgm_congr {f g : Nat → Nat} : ∀ n, (∀ x, x < n → f x = g x) → sgm f n = sgm g n := by
  intro n
  induction n with
  | zero => intro _; rfl
  | succ n ih => intro h; rw [sgm, sgm, ih (fun x hx => h x (by omega)), h n (by omega)]
theorem sgm_le {f g : Nat → Nat} : ∀ n, (∀ x, x < n → f x ≤ g x) → sgm f n ≤ sgm g n := by
  intro n
  induction n with
  | zero => intro _; exact Nat.le_refl _
  | succ n ih => intro h; rw [sgm, sgm]; exact Nat.add_le_add (ih (fun x hx => h x (by omega))) (h n (by omega))
theorem sgm_zero {f : Nat → Nat} : ∀ n, (∀ x, x < n → f x = 0) → sgm f n = 0 := by
  intro n
  induction n with
  | zero => intro _; rfl
  | succ n ih => intro h; rw [sgm, ih (fun x hx => h x (by omega)), h n (by omega)]
theorem sgm_add {f g : Nat → Nat} : ∀ n, sgm (fun x => f x + g x) n = sgm f n + sgm g n := by
  intro n
  induction n with
  | zero => rfl
  | succ n ih => rw [sgm, sgm, sgm, ih]; omega
theorem sgm_mul {f : Nat → Nat} {c : Nat} : ∀ n, sgm (fun x => c * f x) n = c * sgm f n := by
  intro n
  induction n with
  | zero => rfl
  | succ n ih => rw [sgm, sgm, ih, Nat.mul_add]
theorem sgm_mulr {f : Nat → Nat} {c : Nat} (n : Nat) : sgm (fun x => f x * c) n = sgm f n * c := by
  rw [Nat.mul_comm, ← sgm_mul]; exact sgm_congr n (fun x _ => Nat.mul_comm _ _)
/-- one of them put up -/
theorem sgm_up {f : Nat → Nat} {y v : Nat} : ∀ n, y < n → sgm (vu f y (f y + v)) n = sgm f n + v := by
  intro n
  induction n with
  | zero => intro h; exact absurd h (by omega)
  | succ n ih =>
    intro h
    rw [sgm, sgm]
    by_cases c : y = n
    · subst c
      rw [vu_s, sgm_congr (g := f) y (fun x hx => vu_n (by omega))]
      omega
    · rw [ih (by omega), vu_n (by omega)]; omega
theorem sgm_one {f : Nat → Nat} {y : Nat} : ∀ n, y < n → (∀ x, x < n → x ≠ y → f x = 0) → sgm f n = f y := by
  intro n
  induction n with
  | zero => intro h; exact absurd h (by omega)
  | succ n ih =>
    intro h h0
    rw [sgm]
    by_cases c : y = n
    · subst c
      rw [sgm_zero y (fun x hx => h0 x (by omega) (by omega)), Nat.zero_add]
    · rw [ih (by omega) (fun x hx hxy => h0 x (by omega) hxy), h0 n (by omega) (by omega)]; omega
theorem sgm_term {f : Nat → Nat} {y : Nat} : ∀ n, y < n → f y ≤ sgm f n := by
  intro n
  induction n with
  | zero => intro h; exact absurd h (by omega)
  | succ n ih =>
    intro h
    rw [sgm]
    by_cases c : y = n
    · subst c; omega
    · have := ih (by omega); omega
/-- weights times values -/
def dot (n : Nat) (W v : Nat → Nat) : Nat := sgm (fun x => W x * v x) n
theorem dot_up {n y c : Nat} {W v : Nat → Nat} (hy : y < n) : dot n (vu W y (W y + c)) v = dot n W v + c * v y := by
  unfold dot
  rw [← sgm_up (f := fun x => W x * v x) (v := c * v y) n hy]
  refine sgm_congr n (fun x _ => ?_)
  by_cases e : x = y
  · subst e; rw [vu_s, vu_s, Nat.add_mul]
  · rw [vu_n e, vu_n e]
theorem dot_term {n y : Nat} {W v : Nat → Nat} (hy : y < n) : W y * v y ≤ dot n W v := sgm_term (f := fun i => W i * v i) n hy
theorem dot_congr {n : Nat} {W v v' : Nat → Nat} (h : ∀ x, x < n → v x = v' x) : dot n W v = dot n W v' := sgm_congr n (fun x hx => by rw [h x hx])
theorem dot_le {n c : Nat} {W v : Nat → Nat} (h : ∀ x, x < n → v x ≤ c) : dot n W v ≤ dot n W (fun _ => 1) * c := by
  unfold dot
  rw [← sgm_mulr n]
  exact sgm_le n (fun x hx => by rw [Nat.mul_one]; exact Nat.mul_le_mul_left _ (h x hx))
theorem dot_zero {n : Nat} {v : Nat → Nat} : dot n (fun _ => 0) v = 0 := sgm_zero n (fun _ _ => Nat.zero_mul _)
theorem dot_one {n y : Nat} {v : Nat → Nat} (hy : y < n) : dot n (vu (fun _ => 0) y 1) v = v y := by
  unfold dot
  rw [sgm_one (f := fun x => vu (fun _ => 0) y 1 x * v x) n hy (fun x _ hx => by rw [vu_n hx]; exact Nat.zero_mul _), vu_s, Nat.one_mul]
/-- what each move's share is -/
def byw (c : Nat → Nat) (ch : Bool) (x : Nat) : Nat := if ch then 60 / c x else 1
/-- one move ahead: stuck ones stay -/
def stp (mv : Nat → Nat → Bool) (nx : Nat → Nat → Nat) (c : Nat → Nat) (ch : Bool) (v : Nat → Nat) (x : Nat) : Nat :=
  (if (ch && c x == 0) = true then 60 * v x else 0) + sgm (fun k => if mv x k then byw c ch x * v (nx x k) else 0) 16
def stps (mv : Nat → Nat → Bool) (nx : Nat → Nat → Nat) (c : Nat → Nat) (ch : Bool) (v : Nat → Nat) : Nat → Nat → Nat
  | 0 => v
  | r + 1 => stp mv nx c ch (stps mv nx c ch v r)
section St
variable {mv : Nat → Nat → Bool} {nx : Nat → Nat → Nat} {c : Nat → Nat} {ch : Bool} {v : Nat → Nat}
theorem sgm_cnt {p : Nat → Bool} {q : Nat} : ∀ n, sgm (fun k => if p k then q else 0) n = sgm (fun k => if p k then 1 else 0) n * q := by
  intro n
  rw [← sgm_mulr n]
  refine sgm_congr n (fun k _ => ?_)
  cases p k <;> simp
theorem stp_1 {x : Nat} (hc : sgm (fun k => if mv x k then 1 else 0) 16 = c x) : stp mv nx c ch (fun _ => 1) x ≤ 60 := by
  unfold stp byw
  simp only [Nat.mul_one]
  rw [sgm_cnt, hc]
  cases ch
  · simp only [Bool.false_and, Bool.false_eq_true, if_false]
    have : sgm (fun k => if mv x k then 1 else 0) 16 ≤ sgm (fun _ => 1) 16 := sgm_le 16 (fun k _ => by cases mv x k <;> simp)
    have e : sgm (fun _ => 1) 16 = 16 := by decide
    omega
  · by_cases e : c x = 0
    · rw [e]; decide
    · simp only [Bool.true_and, beq_iff_eq, e, if_false, if_true]
      have := Nat.mul_div_le 60 (c x)
      omega
theorem stp_1f {x : Nat} (hc : sgm (fun k => if mv x k then 1 else 0) 16 = c x) : stp mv nx c false (fun _ => 1) x ≤ 16 := by
  unfold stp byw
  simp only [Nat.mul_one]
  rw [sgm_cnt, hc]
  simp only [Bool.false_and, Bool.false_eq_true, if_false]
  have : sgm (fun k => if mv x k then 1 else 0) 16 ≤ sgm (fun _ => 1) 16 := sgm_le 16 (fun k _ => by cases mv x k <;> simp)
  have e : sgm (fun _ => 1) 16 = 16 := by decide
  omega
/-- where no move may be -/
theorem stps_stuck {x : Nat} (hc : sgm (fun k => if mv x k then 1 else 0) 16 = c x) (h0 : c x = 0) : ∀ r, stps mv nx c true v r x = 60 ^ r * v x := by
  intro r
  induction r with
  | zero => rw [stps, Nat.pow_zero, Nat.one_mul]
  | succ r ih =>
    have hk : ∀ k, k < 16 → mv x k = false := fun k hk => by
      have := sgm_term (f := fun k => if mv x k then 1 else 0) 16 hk
      rw [hc, h0] at this
      cases e : mv x k
      · rfl
      · simp only [e, if_true] at this
        omega
    rw [stps, stp, ih, h0, sgm_zero 16 (fun k h => by rw [hk k h]; rfl)]
    simp only [Bool.true_and, beq_self_eq_true, if_true]
    rw [Nat.pow_succ]
    simp only [Nat.add_zero, Nat.mul_comm, Nat.mul_left_comm]
theorem stps_congr {v' : Nat → Nat} {V : Nat → Prop} (hv : ∀ x k, V x → k < 16 → mv x k = true → V (nx x k)) (h : ∀ x, V x → v x = v' x) : ∀ r x, V x → stps mv nx c ch v r x = stps mv nx c ch v' r x := by
  intro r
  induction r with
  | zero => intro x hx; exact h x hx
  | succ r ih =>
    intro x hx
    rw [stps, stps, stp, stp, ih x hx]
    congr 1
    refine sgm_congr 16 (fun k hk => ?_)
    by_cases e : mv x k = true
    · rw [if_pos e, if_pos e, ih _ (hv x k hx hk e)]
    · rw [if_neg e, if_neg e]
/-- the same of a graph and its image -/
theorem stps_map {mv' : Nat → Nat → Bool} {nx' : Nat → Nat → Nat} {c' : Nat → Nat} {pi : Nat → Nat} {V : Nat → Prop} (hv : ∀ x k, V x → k < 16 → mv x k = true → V (nx x k)) (h1 : ∀ x k, V x → k < 16 → mv' (pi x) k = mv x k) (h2 : ∀ x k, V x → k < 16 → mv x k = true → nx' (pi x) k = pi (nx x k)) (h3 : ∀ x, V x → c' (pi x) = c x) : ∀ (r x : Nat), V x → stps mv' nx' c' ch v r (pi x) = stps mv nx c ch (fun y => v (pi y)) r x := by
  intro r
  induction r with
  | zero => intro x _; rfl
  | succ r ih =>
    intro x hx
    rw [stps, stps, stp, stp, ih x hx, h3 x hx]
    congr 1
    refine sgm_congr 16 (fun k hk => ?_)
    rw [h1 x k hx hk]
    by_cases e : mv x k = true
    · rw [if_pos e, if_pos e, h2 x k hx hk e, ih _ (hv x k hx hk e)]
      unfold byw; rw [h3 x hx]
    · rw [if_neg e, if_neg e]
end St
/-! the greatest that divides both -/
def gcl : Nat → Nat → Nat → Nat
  | 0, a, _ => a
  | n + 1, a, b => if b = 0 then a else gcl n b (a % b)
theorem gcl_s (n a b : Nat) : gcl (n + 1) a b = if b = 0 then a else gcl n b (a % b) := by rw [gcl]
/-- how many rounds are enough: b halves in two -/
theorem gcl_end : ∀ (n a b : Nat), b < 2 ^ n → ∀ r, 2 * n ≤ r → gcl r a b = gcl (2 * n) a b := by
  intro n
  induction n with
  | zero =>
    intro a b hb r _
    obtain rfl : b = 0 := by omega
    cases r with
    | zero => rfl
    | succ r => rw [gcl_s, if_pos rfl]; rfl
  | succ n ih =>
    intro a b hb r hr
    obtain ⟨r, rfl⟩ : ∃ k, r = k + 2 := ⟨r - 2, by omega⟩
    rw [show 2 * (n + 1) = 2 * n + 1 + 1 by omega, gcl_s, gcl_s (2 * n + 1)]
    by_cases c : b = 0
    · rw [if_pos c, if_pos c]
    · rw [if_neg c, if_neg c, gcl_s, gcl_s (2 * n)]
      by_cases c2 : a % b = 0
      · rw [if_pos c2, if_pos c2]
      · rw [if_neg c2, if_neg c2]
        have h1 : a % b < b := Nat.mod_lt _ (by omega)
        have h2 : b % (a % b) < a % b := Nat.mod_lt _ (by omega)
        have h3 : b % (a % b) + a % b ≤ b := by
          have := Nat.div_add_mod b (a % b)
          have h4 : 1 ≤ b / (a % b) := (Nat.le_div_iff_mul_le (by omega)).mpr (by omega)
          have := Nat.mul_le_mul_left (a % b) h4
          omega
        rw [Nat.pow_succ] at hb
        exact ih _ _ (by omega) r (by omega)
