/-! the reference reads a board -/
/-- the byte as the programs read it -/
def btI (s : AS) (i : Nat) : Int32 := if i < s.tl then nI (s.tb i) else -1
/-- the tape as the reference holds it -/
def TPm (f : Nat → Int32) (a : Nat → Nat → Int32) (s : AS) : Prop := f 4 = nI s.tl ∧ s.tl ≤ 60 ∧ ∀ j, j < s.tl → s.tb j < 256 ∧ a 57 j = (nI (s.tb j)).toInt8.toInt32
/-- all but at, wrongAt, wrong is as it was -/
def F789 (f f' : Nat → Int32) : Prop := ∀ i, i ≠ 7 → i ≠ 8 → i ≠ 9 → f' i = f i
theorem F789.tr {f g h : Nat → Int32} (h1 : F789 f g) (h2 : F789 g h) : F789 f h := fun i a b c => by rw [h2 i a b c, h1 i a b c]
theorem F789.refl {f : Nat → Int32} : F789 f f := fun _ _ _ _ => rfl
theorem F789.u7 {f : Nat → Int32} {v : Int32} : F789 f (upd f 7 v) := fun i a _ _ => upd_n a
theorem TPm.fr {f f' : Nat → Int32} {a : Nat → Nat → Int32} {s : AS} (h : TPm f a s) (hf : F789 f f') : TPm f' a s := ⟨by rw [hf 4 (by decide) (by decide) (by decide)]; exact h.1, h.2⟩
theorem by255 : ∀ n, n < 256 → (nI n).toInt8.toInt32 &&& 255 = nI n := by decide +kernel
theorem btI_eq {s : AS} {i c : Nat} (hc : c < 256) (hb : ∀ j, j < s.tl → s.tb j < 256) : btI s i = nI c ↔ bt s i = c := by
  unfold btI bt
  by_cases h : i < s.tl
  · rw [if_pos h, if_pos h]
    have := hb i h
    exact nI_eq (by omega) (by omega)
  · rw [if_neg h, if_neg h]
    constructor
    · intro e
      have := congrArg Int32.toInt e
      rw [nI_toInt (by omega), show (-1 : Int32).toInt = -1 from rfl] at this
      omega
    · intro e; omega
theorem fig_in {s : AS} {i : Nat} (hb : ∀ j, j < s.tl → s.tb j < 256) : (48 ≤ btI s i ∧ btI s i ≤ 57) ↔ fig (bt s i) = true := by
  unfold btI bt fig
  by_cases h : i < s.tl
  · rw [if_pos h, if_pos h]
    have := hb i h
    rw [show (48 : Int32) = nI 48 from rfl, show (57 : Int32) = nI 57 from rfl, nI_leI (by omega) (by omega), nI_leI (by omega) (by omega)]
    simp
  · rw [if_neg h, if_neg h]
    constructor
    · rintro ⟨h1, _⟩
      exact absurd h1 (by decide +kernel)
    · intro h; exact absurd h (by decide)
section MR
variable {N m : Nat} {f : Nat → Int32} {a : Nat → Nat → Int32} {b : Nat → Nat → Int64} {s : AS} {σ : Hp}
theorem byteAt_ok (hN : 66 ≤ N) (h : TPm f a s) {p : Nat} (hp : p < 2 ^ 31) : m_X9_byteAt N (MH σ f a b) 53 (nI p) = some (btI s p) := by
  unfold m_X9_byteAt btI
  rw [MH_rv hN, MH_f4 hN, h.1]
  simp only [Option.bind_some]
  have h60 := h.2.1
  by_cases c : p < s.tl
  · rw [if_neg (by rw [nI_leI (by omega) hp]; omega), if_pos c, MH_r5 hN]
    simp only [Option.bind_some]
    rw [MH_a57 hN (by omega)]
    simp only [Option.bind_some]
    rw [(h.2.2 p c).2, by255 _ (h.2.2 p c).1]
  · rw [if_pos (by rw [nI_leI (by omega) hp]; omega), if_neg c]
theorem fails_ok (hN : 66 ≤ N) (p w : Int32) : m_X9_fails N (MH σ f a b) 53 p w = some (MH σ (if f 9 = 0 then upd (upd f 9 w) 8 p else f) a b) := by
  unfold m_X9_fails
  rw [MH_rv hN, MH_f9 hN]
  simp only [Option.bind_some]
  by_cases c : f 9 = 0
  · rw [if_pos c, if_pos c, MH_put (j := 9) hN (by omega)]
    simp only [Option.bind_some]
    rw [MH_put (j := 8) hN (by omega)]
    rfl
  · rw [if_neg c, if_neg c]
/-- what a piece of reading leaves -/
def Rd (f f' : Nat → Int32) (r : (Nat × Nat) ⊕ Nat) : Prop := F789 f f' ∧ match r with
  | .inl (w, p) => f' 9 = nI w ∧ f' 8 = nI p
  | .inr q => f' 9 = 0 ∧ f' 7 = nI q
theorem sign_ok (hN : 66 ≤ N) (h : TPm f a s) (h9 : f 9 = 0) {p c : Nat} (h7 : f 7 = nI p) (hp : p ≤ 1000) (hc : c < 256) : ∃ f', m_X9_sign N (MH σ f a b) 53 (nI c) = some (MH σ f' a b) ∧ Rd f f' (pSg s c p) := by
  unfold m_X9_sign
  rw [MH_rv hN, MH_f7 hN, h7]
  simp only [Option.bind_some]
  rw [byteAt_ok hN h (by omega)]
  simp only [Option.bind_some]
  unfold pSg
  by_cases e : bt s p = c
  · rw [if_pos ((btI_eq hc (fun j hj => (h.2.2 j hj).1)).mpr e), if_pos e]
    simp only [Option.bind_some]
    rw [MH_f7 hN, h7]
    simp only [Option.bind_some]
    rw [MH_put (j := 7) hN (by omega), nI_1]
    exact ⟨_, rfl, F789.u7, by rw [upd_n (by decide)]; exact h9, upd_s⟩
  · rw [if_neg (fun e' => e ((btI_eq hc (fun j hj => (h.2.2 j hj).1)).mp e')), if_neg e]
    rw [fails_ok hN, if_pos h9]
    simp only [Option.bind_some]
    rw [MH_f7 hN]
    simp only [Option.bind_some]
    rw [MH_put (j := 7) hN (by omega)]
    refine ⟨_, rfl, fun i a b c => by rw [upd_n a, upd_n b, upd_n c], ?_, ?_⟩
    · rw [upd_n (by decide), upd_n (by decide), upd_s]; rfl
    · rw [upd_n (by decide), upd_s]
theorem sign_bad (hN : 66 ≤ N) (h : TPm f a s) (h9 : f 9 ≠ 0) {p : Nat} (h7 : f 7 = nI p) (hp : p ≤ 1000) (c : Int32) : ∃ f', m_X9_sign N (MH σ f a b) 53 c = some (MH σ f' a b) ∧ F789 f f' ∧ f' 9 = f 9 ∧ f' 8 = f 8 := by
  unfold m_X9_sign
  rw [MH_rv hN, MH_f7 hN, h7]
  simp only [Option.bind_some]
  rw [byteAt_ok hN h (by omega)]
  simp only [Option.bind_some]
  by_cases e : btI s p = c
  · rw [if_pos e]
    simp only [Option.bind_some]
    rw [MH_f7 hN]
    simp only [Option.bind_some]
    rw [MH_put (j := 7) hN (by omega)]
    exact ⟨_, rfl, F789.u7, upd_n (by decide), upd_n (by decide)⟩
  · rw [if_neg e]
    rw [fails_ok hN, if_neg h9]
    simp only [Option.bind_some]
    rw [MH_f7 hN]
    simp only [Option.bind_some]
    rw [MH_put (j := 7) hN (by omega)]
    exact ⟨_, rfl, F789.u7, upd_n (by decide), upd_n (by decide)⟩
/-- one round of a number's reading -/
theorem num_end (hN : 66 ≤ N) (h : TPm f a s) {p i n : Nat} {v1 v2 v3 v5 : Int32} (h7 : f 7 = nI (p + i)) (hp : p + i ≤ 1000) (e : fig (bt s (p + i)) = false) : L_X9_number_9 N 53 v1 v2 v3 (nI p) (n + 1) (MH σ f a b) v5 = some (v5, MH σ f a b) := by
  rw [L_X9_number_9.eq_2, MH_f7 hN, h7]
  simp only [Option.bind_some]
  rw [byteAt_ok hN h (by omega)]
  simp only [Option.bind_some]
  rw [show (48 : Int64) = (48 : Int32).toInt64 by decide +kernel, show (57 : Int64) = (57 : Int32).toInt64 by decide +kernel, i64_in]
  simp only [Option.bind_some, ite10]
  rw [if_neg (fun c => by rw [(fig_in (fun j hj => (h.2.2 j hj).1)).mp c] at e; exact absurd e (by decide))]
theorem num_go (hN : 66 ≤ N) (h : TPm f a s) {p i n : Nat} {v1 v2 v3 v5 : Int32} (h7 : f 7 = nI (p + i)) (hp : p + i ≤ 1000) (e : fig (bt s (p + i)) = true) : L_X9_number_9 N 53 v1 v2 v3 (nI p) (n + 1) (MH σ f a b) v5 = L_X9_number_9 N 53 v1 v2 v3 (nI p) n (MH σ (upd f 7 (nI (p + i + 1))) a b) (if 2 ≤ i then v5 else 10 * v5 + nI (bt s (p + i)) - 48) := by
  rw [L_X9_number_9.eq_2, MH_f7 hN, h7]
  simp only [Option.bind_some]
  rw [byteAt_ok hN h (by omega)]
  simp only [Option.bind_some]
  rw [show (48 : Int64) = (48 : Int32).toInt64 by decide +kernel, show (57 : Int64) = (57 : Int32).toInt64 by decide +kernel, i64_in]
  simp only [Option.bind_some, ite10]
  rw [if_pos ((fig_in (fun j hj => (h.2.2 j hj).1)).mpr e)]
  rw [pk_sub (by omega), show p + i - p = i by omega]
  have hb : btI s (p + i) = nI (bt s (p + i)) := by
    have := bt_lt (fig_ne e)
    unfold btI bt; rw [if_pos this, if_pos this]
  by_cases c : 2 ≤ i
  · rw [if_pos (show (2 : Int32) ≤ nI i by rw [show (2 : Int32) = nI 2 from rfl, nI_leI (by omega) (by omega)]; exact c), if_pos c]
    simp only [Option.bind_some]
    rw [MH_put (j := 7) hN (by omega), nI_1]
    rfl
  · rw [if_neg (show ¬ (2 : Int32) ≤ nI i by rw [show (2 : Int32) = nI 2 from rfl, nI_leI (by omega) (by omega)]; exact c), if_neg c]
    simp only [Option.bind_some]
    rw [hb, MH_put (j := 7) hN (by omega), nI_1]
    rfl
theorem num_more (hN : 66 ≤ N) {p : Nat} {v1 v2 v3 v5 : Int32} : ∀ (r n i : Nat) (f : Nat → Int32), TPm f a s → f 7 = nI (p + i) → p + i + r = s.tl → 2 ≤ i → r < n → ∃ q, p + i ≤ q ∧ q ≤ s.tl ∧ (q = p + i ↔ fig (bt s (p + i)) = false) ∧ L_X9_number_9 N 53 v1 v2 v3 (nI p) n (MH σ f a b) v5 = some (v5, MH σ (upd f 7 (nI q)) a b) := by
  intro r
  induction r with
  | zero =>
    intro n i f h h7 hr hi hn
    obtain ⟨n, rfl⟩ : ∃ k, n = k + 1 := ⟨n - 1, by omega⟩
    have h60 := h.2.1
    have e : fig (bt s (p + i)) = false := by unfold bt; rw [if_neg (by omega)]; rfl
    refine ⟨p + i, by omega, by omega, ⟨fun _ => e, fun _ => rfl⟩, ?_⟩
    rw [num_end hN h h7 (by omega) e]
    congr 3
    funext j
    by_cases c : j = 7
    · subst c; rw [upd_s, h7]
    · rw [upd_n c]
  | succ r ih =>
    intro n i f h h7 hr hi hn
    obtain ⟨n, rfl⟩ : ∃ k, n = k + 1 := ⟨n - 1, by omega⟩
    have h60 := h.2.1
    cases e : fig (bt s (p + i)) with
    | false =>
      refine ⟨p + i, by omega, by omega, ⟨fun _ => rfl, fun _ => rfl⟩, ?_⟩
      rw [num_end hN h h7 (by omega) e]
      congr 3
      funext j
      by_cases c : j = 7
      · subst c; rw [upd_s, h7]
      · rw [upd_n c]
    | true =>
      obtain ⟨q, q1, q2, q3, q4⟩ := ih n (i + 1) (upd f 7 (nI (p + i + 1))) (h.fr F789.u7) upd_s (by omega) (by omega) (by omega)
      refine ⟨q, by omega, q2, ⟨fun c => absurd c (by omega), fun c => absurd c (by decide)⟩, ?_⟩
      rw [num_go hN h h7 (by omega) e, if_pos hi, q4]
      congr 3
      funext j
      by_cases c : j = 7
      · subst c; rw [upd_s, upd_s]
      · rw [upd_n c, upd_n c, upd_n c]
/-- the figures and what they say -/
def figs (s : AS) (p : Nat) (x q : Nat) : Prop :=
  (fig (bt s p) = false ∧ x = 0 ∧ q = p) ∨ (fig (bt s p) = true ∧ fig (bt s (p + 1)) = false ∧ x = bt s p - 48 ∧ q = p + 1) ∨ (fig (bt s p) = true ∧ fig (bt s (p + 1)) = true ∧ x = 10 * (bt s p - 48) + (bt s (p + 1) - 48) ∧ p + 2 ≤ q ∧ (q = p + 2 ↔ fig (bt s (p + 2)) = false))
theorem fig_b {c : Nat} (h : fig c = true) : 48 ≤ c ∧ c ≤ 57 := by
  unfold fig at h
  rw [Bool.and_eq_true] at h
  exact ⟨of_decide_eq_true h.1, of_decide_eq_true h.2⟩
theorem num_loop (hN : 66 ≤ N) (h : TPm f a s) {p : Nat} (h7 : f 7 = nI p) (hp : p ≤ s.tl) (v1 v2 v3 : Int32) : ∃ x q, figs s p x q ∧ x < 100 ∧ q ≤ s.tl ∧ p ≤ q ∧ L_X9_number_9 N 53 v1 v2 v3 (nI p) fu (MH σ f a b) 0 = some (nI x, MH σ (upd f 7 (nI q)) a b) := by
  have h60 := h.2.1
  have hfu : fu = 19997 + 1 + 1 + 1 := rfl
  have heq : ∀ (g : Nat → Int32) (v : Int32), g 7 = v → upd g 7 v = g := fun g v hv => by
    funext j
    by_cases c : j = 7
    · subst c; rw [upd_s, hv]
    · rw [upd_n c]
  cases e0 : fig (bt s p) with
  | false =>
    refine ⟨0, p, Or.inl ⟨e0, rfl, rfl⟩, by omega, hp, Nat.le_refl _, ?_⟩
    rw [hfu, num_end (i := 0) hN h h7 (by omega) e0, heq f _ h7]
    rfl
  | true =>
    have l0 := bt_lt (fig_ne e0)
    have b0 := fig_b e0
    have t1 : TPm (upd f 7 (nI (p + 0 + 1))) a s := h.fr F789.u7
    have x0 : (if 2 ≤ 0 then (0 : Int32) else 10 * 0 + nI (bt s (p + 0)) - 48) = nI (bt s p - 48) := by
      rw [if_neg (by omega), show (10 : Int32) * 0 = nI 0 by decide +kernel, nI_add, show (48 : Int32) = nI 48 from rfl, pk_sub (by show 48 ≤ 0 + bt s (p + 0); rw [Nat.add_zero]; omega), Nat.zero_add, Nat.add_zero]
    cases e1 : fig (bt s (p + 1)) with
    | false =>
      refine ⟨bt s p - 48, p + 1, Or.inr (Or.inl ⟨e0, e1, rfl, rfl⟩), by omega, by omega, by omega, ?_⟩
      rw [hfu, num_go (i := 0) hN h h7 (by omega) e0, num_end (i := 1) hN t1 upd_s (by omega) e1, x0]
    | true =>
      have l1 := bt_lt (fig_ne e1)
      have b1 := fig_b e1
      have t2 : TPm (upd (upd f 7 (nI (p + 0 + 1))) 7 (nI (p + 1 + 1))) a s := t1.fr F789.u7
      have x1 : (if 2 ≤ 1 then nI (bt s p - 48) else 10 * nI (bt s p - 48) + nI (bt s (p + 1)) - 48) = nI (10 * (bt s p - 48) + (bt s (p + 1) - 48)) := by
        rw [if_neg (by omega), show (10 : Int32) = nI 10 from rfl, pk_mul, nI_add, show (48 : Int32) = nI 48 from rfl, pk_sub (by omega)]
        congr 1; omega
      obtain ⟨q, q1, q2, q3, q4⟩ := num_more (N := N) (a := a) (b := b) (s := s) (σ := σ) hN (p := p) (v1 := v1) (v2 := v2) (v3 := v3) (v5 := nI (10 * (bt s p - 48) + (bt s (p + 1) - 48))) (s.tl - (p + 2)) (19997 + 1) 2 _ t2 upd_s (by omega) (by omega) (by omega)
      refine ⟨_, q, Or.inr (Or.inr ⟨e0, e1, rfl, q1, q3⟩), by omega, q2, by omega, ?_⟩
      rw [hfu, num_go (i := 0) hN h h7 (by omega) e0, x0, num_go (i := 1) hN t1 upd_s (by omega) e1, x1, q4]
      congr 3
      funext j
      by_cases c : j = 7
      · subst c; rw [upd_s, upd_s]
      · rw [upd_n c, upd_n c, upd_n c, upd_n c]
/-- what a number's reading leaves -/
def RdN (f f' : Nat → Int32) (x : Int32) (tl : Nat) (r : (Nat × Nat) ⊕ (Nat × Nat)) : Prop := F789 f f' ∧ match r with
  | .inl (w, p) => f' 9 = nI w ∧ f' 8 = nI p ∧ ∃ q, q ≤ tl ∧ f' 7 = nI q
  | .inr (v, q) => f' 9 = 0 ∧ f' 7 = nI q ∧ x = nI v
theorem num_ok (hN : 66 ≤ N) (h : TPm f a s) (h9 : f 9 = 0) {p lo hi : Nat} (h7 : f 7 = nI p) (hp : p ≤ s.tl) (hlo : lo < 100) (hhi : hi < 100) : ∃ f' x, m_X9_number N (MH σ f a b) 53 (nI lo) (nI hi) (-1) = some (x, MH σ f' a b) ∧ RdN f f' x s.tl (pNum s p lo hi) := by
  have h60 := h.2.1
  obtain ⟨x, q, hf, hx, hq, hpq, hl⟩ := num_loop (N := N) (f := f) (a := a) (b := b) (σ := σ) hN h h7 hp (nI lo) (nI hi) (-1)
  unfold m_X9_number
  rw [MH_rv hN, MH_f7 hN, h7]
  simp only [Option.bind_some]
  rw [hl]
  simp only [Option.bind_some]
  rw [MH_f7 hN, upd_s]
  simp only [Option.bind_some]
  have hin : (if nI lo ≤ nI x ∧ nI x ≤ nI hi then (1 : Int32) else 0) = if lo ≤ x ∧ x ≤ hi then 1 else 0 := by
    by_cases c : lo ≤ x ∧ x ≤ hi
    · rw [if_pos c, if_pos ⟨(nI_leI (by omega) (by omega)).mpr c.1, (nI_leI (by omega) (by omega)).mpr c.2⟩]
    · rw [if_neg c, if_neg (fun e => c ⟨(nI_leI (by omega) (by omega)).mp e.1, (nI_leI (by omega) (by omega)).mp e.2⟩)]
  rw [i64_in, hin]
  simp only [Option.bind_some, ite10]
  have hx1 : ¬ nI x = -1 := fun e => by
    have := congrArg Int32.toInt e
    rw [nI_toInt (by omega), show (-1 : Int32).toInt = -1 from rfl] at this
    omega
  simp only [hx1, if_false]
  have u9 : upd f 7 (nI q) 9 = 0 := by rw [upd_n (by decide)]; exact h9
  -- fault 1: no figures, or too many
  have bad : ∀ (w : Nat), (w = 1 ∨ w = 2) → ∀ g : Nat → Int32, g = upd (upd (upd f 7 (nI q)) 9 (nI w)) 8 (nI p) → RdN f g 0 s.tl (.inl (w, p)) := fun w _ g hg => by
    subst hg
    refine ⟨fun i a b c => by rw [upd_n b, upd_n c, upd_n a], ?_, upd_s, q, hq, ?_⟩
    · rw [upd_n (by decide), upd_s]
    · rw [upd_n (by decide), upd_n (by decide), upd_s]
  have n1 : ∀ w : Nat, (w = 1 ∨ w = 2) → ¬ nI w = 0 := fun w hw => by rcases hw with rfl | rfl <;> decide +kernel
  have tail1 : ∃ f' x', (((if lo ≤ x ∧ x ≤ hi then some (MH σ (upd (upd (upd f 7 (nI q)) 9 1) 8 (nI p)) a b) else (m_X9_fails N (MH σ (upd (upd (upd f 7 (nI q)) 9 1) 8 (nI p)) a b) 53 (nI p) 2).bind fun r25 => some r25) : Option Hp).bind fun z19 => (gI N z19 53 9 9).bind fun x20 => if x20 = 0 then some (nI x, z19) else some (0, z19)) = some (x', MH σ f' a b) ∧ RdN f f' x' s.tl (.inl (1, p)) := by
    have e9 : upd (upd (upd f 7 (nI q)) 9 1) 8 (nI p) 9 = 1 := by rw [upd_n (by decide), upd_s]
    have hh : (if lo ≤ x ∧ x ≤ hi then some (MH σ (upd (upd (upd f 7 (nI q)) 9 1) 8 (nI p)) a b) else (m_X9_fails N (MH σ (upd (upd (upd f 7 (nI q)) 9 1) 8 (nI p)) a b) 53 (nI p) 2).bind fun r25 => some r25) = some (MH σ (upd (upd (upd f 7 (nI q)) 9 1) 8 (nI p)) a b) := by
      by_cases c : lo ≤ x ∧ x ≤ hi
      · rw [if_pos c]
      · rw [if_neg c, fails_ok hN, e9, if_neg (by decide +kernel)]; rfl
    rw [hh]
    simp only [Option.bind_some]
    rw [MH_f9 hN, e9]
    simp only [Option.bind_some]
    rw [if_neg (by decide +kernel)]
    exact ⟨_, _, rfl, bad 1 (Or.inl rfl) _ rfl⟩
  have tail2 : ∀ qq, qq = q → ∃ f' x', (((if lo ≤ x ∧ x ≤ hi then some (MH σ (upd f 7 (nI q)) a b) else (m_X9_fails N (MH σ (upd f 7 (nI q)) a b) 53 (nI p) 2).bind fun r25 => some r25) : Option Hp).bind fun z19 => (gI N z19 53 9 9).bind fun x20 => if x20 = 0 then some (nI x, z19) else some (0, z19)) = some (x', MH σ f' a b) ∧ RdN f f' x' s.tl (rng p lo hi x qq) := by
    intro qq hqq
    subst hqq
    unfold rng
    by_cases c : lo ≤ x ∧ x ≤ hi
    · rw [if_pos c, if_pos c]
      simp only [Option.bind_some]
      rw [MH_f9 hN, u9]
      simp only [Option.bind_some, if_true]
      exact ⟨_, _, rfl, F789.u7, u9, upd_s, rfl⟩
    · rw [if_neg c, if_neg c, fails_ok hN, u9, if_pos rfl]
      simp only [Option.bind_some]
      rw [MH_f9 hN, upd_n (by decide), upd_s]
      simp only [Option.bind_some]
      rw [if_neg (by decide +kernel)]
      exact ⟨_, _, rfl, bad 2 (Or.inr rfl) _ rfl⟩
  unfold pNum
  rcases hf with ⟨e0, rfl, rfl⟩ | ⟨e0, e1, rfl, rfl⟩ | ⟨e0, e1, hxx, hq2, hq3⟩
  · rw [if_pos rfl, fails_ok hN, u9, if_pos rfl, e0, if_neg (by decide)]
    simp only [Option.bind_some]
    exact tail1
  · rw [if_neg (ni_ne (by omega) (by omega) (by omega)), pk_sub (by omega), if_pos (show nI (p + 1 - p) ≤ 2 by rw [show (2 : Int32) = nI 2 from rfl, nI_leI (by omega) (by omega)]; omega), e0, if_pos rfl, e1, if_neg (by decide)]
    simp only [Option.bind_some]
    exact tail2 _ rfl
  · rw [if_neg (ni_ne (by omega) (by omega) (by omega)), pk_sub (by omega), e0, if_pos rfl, e1, if_pos rfl]
    by_cases c : q = p + 2
    · rw [if_pos (show nI (q - p) ≤ 2 by rw [show (2 : Int32) = nI 2 from rfl, nI_leI (by omega) (by omega)]; omega), hq3.mp c, if_neg (by decide), ← hxx]
      simp only [Option.bind_some]
      exact tail2 _ c.symm
    · have e2 : fig (bt s (p + 2)) = true := by
        cases e : fig (bt s (p + 2))
        · exact absurd (hq3.mpr e) c
        · rfl
      rw [if_neg (show ¬ nI (q - p) ≤ 2 by rw [show (2 : Int32) = nI 2 from rfl, nI_leI (by omega) (by omega)]; omega), fails_ok hN, u9, if_pos rfl, e2, if_pos rfl]
      simp only [Option.bind_some]
      exact tail1
theorem sortOf_ok {p : Nat} (hb : ∀ j, j < s.tl → s.tb j < 256) : m_X9_sortOf (btI s p) = some (nI (srt (bt s p))) := by
  unfold m_X9_sortOf srt
  have key : ∀ c : Nat, c < 256 → ∀ {α : Type} (x y : α), (if btI s p = (nI c) then x else y) = if bt s p = c then x else y := fun c hc α x y => by
    by_cases e : bt s p = c
    · rw [if_pos e, if_pos ((btI_eq hc hb).mpr e)]
    · rw [if_neg e, if_neg (fun e' => e ((btI_eq hc hb).mp e'))]
  rw [show (112 : Int32) = nI 112 from rfl, show (115 : Int32) = nI 115 from rfl, show (104 : Int32) = nI 104 from rfl, show (103 : Int32) = nI 103 from rfl, show (102 : Int32) = nI 102 from rfl, key 112 (by omega), key 115 (by omega), key 104 (by omega), key 103 (by omega), key 102 (by omega)]
  repeat' split
  all_goals rfl
end MR
