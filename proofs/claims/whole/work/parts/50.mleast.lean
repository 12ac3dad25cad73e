/-! the reference: least, tower -/
/-- items tell pegs -/
def tOK (P : Nat) (it : Nat → Int32) : Nat → Bool
  | 0 => true
  | n + 1 => tOK P it n && decide (0 ≤ it n ∧ it n < nI P)
theorem tOK_iff {P : Nat} {it : Nat → Int32} : ∀ n, tOK P it n = true ↔ ∀ d, d < n → 0 ≤ it d ∧ it d < nI P := by
  intro n
  induction n with
  | zero => exact ⟨fun _ d hd => absurd hd (by omega), fun _ => rfl⟩
  | succ n ih =>
    rw [tOK, Bool.and_eq_true, decide_eq_true_iff, ih]
    constructor
    · rintro ⟨h1, h2⟩ d hd
      by_cases c : d = n
      · subst c; exact h2
      · exact h1 d (by omega)
    · intro h
      exact ⟨fun d hd => h d (by omega), h n (by omega)⟩
/-- the highest c of D items tell pegs -/
def hOK (P : Nat) (it : Nat → Int32) (D : Nat) : Nat → Bool
  | 0 => true
  | c + 1 => hOK P it D c && decide (0 ≤ it (D - 1 - c) ∧ it (D - 1 - c) < nI P)
theorem hOK_iff {P : Nat} {it : Nat → Int32} {D : Nat} : ∀ c, c ≤ D → (hOK P it D c = true ↔ ∀ d, D - c ≤ d → d < D → 0 ≤ it d ∧ it d < nI P) := by
  intro c
  induction c with
  | zero => intro _; exact ⟨fun _ d h1 h2 => absurd h1 (by omega), fun _ => rfl⟩
  | succ c ih =>
    intro hc
    rw [hOK, Bool.and_eq_true, decide_eq_true_iff, ih (by omega)]
    constructor
    · rintro ⟨h1, h2⟩ d hd1 hd2
      by_cases e : d = D - 1 - c
      · subst e; exact h2
      · exact h1 d (by omega) hd2
    · intro h
      exact ⟨fun d h1 h2 => h d (by omega) h2, h (D - 1 - c) (by omega) (by omega)⟩
/-- the highest c of D pegs as one number -/
def hvR (pg : Nat → Nat) (D : Nat) : Nat → Nat
  | 0 => 0
  | c + 1 => 4 * hvR pg D c + pg (D - 1 - c)
theorem hvR_enc {pg : Nat → Nat} {D : Nat} : ∀ c, c ≤ D → hvR pg D c * 4 ^ (D - c) + encP pg (D - c) = encP pg D := by
  intro c
  induction c with
  | zero => intro _; rw [hvR, Nat.zero_mul, Nat.zero_add, Nat.sub_zero]
  | succ c ih =>
    intro hc
    have := ih (by omega)
    rw [show D - c = (D - (c + 1)) + 1 by omega, encP, Nat.pow_succ] at this
    rw [hvR, show D - 1 - c = D - (c + 1) by omega, Nat.add_mul, ← this]
    have e : 4 * hvR pg D c * 4 ^ (D - (c + 1)) = hvR pg D c * (4 ^ (D - (c + 1)) * 4) := by
      rw [Nat.mul_comm 4, Nat.mul_assoc, Nat.mul_comm 4]
    omega
theorem hvR_D {pg : Nat → Nat} {D : Nat} : hvR pg D D = encP pg D := by
  have := hvR_enc (pg := pg) (D := D) D (Nat.le_refl _)
  rw [Nat.sub_self, Nat.pow_zero, Nat.mul_one] at this
  exact this
theorem hvR_lt {pg : Nat → Nat} {D : Nat} (h : ∀ d, d < D → pg d < 4) : ∀ c, c ≤ D → hvR pg D c < 4 ^ c := by
  intro c
  induction c with
  | zero => intro _; exact Nat.one_pos
  | succ c ih =>
    intro hc
    have h1 := ih (by omega)
    have h2 := h (D - 1 - c) (by omega)
    rw [hvR, Nat.pow_succ]
    omega
/-- the arrangement that items tell; -1: one is no peg -/
def tldI (P : Nat) (it : Nat → Int32) (D : Nat) : Int32 := if tOK P it D then nI (encP (fun d => nt (it d)) D) else -1
def tldN (it : Nat → Int32) (D : Nat) : Nat := encP (fun d => nt (it d)) D
theorem tldN_lt {P : Nat} {it : Nat → Int32} {D : Nat} (hP : P ≤ 4) (h : tOK P it D = true) : tldN it D < 4 ^ D := by
  refine encP_lt (fun d hd => ?_)
  obtain ⟨h0, h1⟩ := (tOK_iff D).mp h d hd
  obtain ⟨k, hk, e⟩ := ni_of (n := P) (by omega) h0 (by rw [Int32.le_iff_toInt_le]; rw [Int32.lt_iff_toInt_lt] at h1; omega)
  rw [e, nI_ltI (by omega) (by omega)] at h1
  rw [e, nt_nI (by omega)]; omega
theorem pow4_6 {D : Nat} (h : D ≤ 6) : 4 ^ D ≤ 4096 := by
  have : 4 ^ D ≤ 4 ^ 6 := Nat.pow_le_pow_right (by omega) h
  exact this
def o_least (s : AS) (r i k : Int32) : Int32 × AS :=
  if s.bd.P = 0 then (-1000002, s) else if 0 ≤ r ∧ r ≤ 7 then (if -1 ≤ k then (if wrg s (nt r) i (nI s.bd.D) = 0 then (if tOK s.bd.P (fun d => s.items (nt r) (nt i + d)) s.bd.D then o_lst s.bd (tldN (fun d => s.items (nt r) (nt i + d)) s.bd.D) k else -1000000, s.fnd 0) else (-1000010 - wrg s (nt r) i (nI s.bd.D), s.fnd (wrg s (nt r) i (nI s.bd.D)))) else (-1000001, s)) else (-1000001, s)
def o_tower (s : AS) (p k : Int32) : Int32 :=
  if s.bd.P = 0 then -1000002 else if 0 ≤ p ∧ p < nI s.bd.P then (if -1 ≤ k then o_lst s.bd (encP (fun _ => nt p) s.bd.D) k else -1000001) else -1000001
theorem encC (p : Nat) : ∀ c, 4 * encP (fun _ => p) c + p = encP (fun _ => p) (c + 1) := by
  intro c
  induction c with
  | zero => simp [encP]
  | succ c ih =>
    have e1 : encP (fun _ => p) (c + 1 + 1) = encP (fun _ => p) (c + 1) + p * 4 ^ (c + 1) := rfl
    have e2 : encP (fun _ => p) (c + 1) = encP (fun _ => p) c + p * 4 ^ c := rfl
    rw [Nat.pow_succ, ← Nat.mul_assoc] at e1
    omega
section ML
variable {N m : Nat} {f : Nat → Int32} {a : Nat → Nat → Int32} {b : Nat → Nat → Int64} {s : AS} {σ : Hp}
theorem told_loop (hN : 66 ≤ N) (h : RM f a s) (hv : VA m s) {k u : Nat} (hk : k < 8) (hu : u + s.bd.D ≤ 40) : ∀ (r t : Nat), r ≤ s.bd.D → r < t → L_X9_told_12 N (MH σ f a b) 53 (nI k) (nI u) t (if hOK s.bd.P (fun d => s.items k (u + d)) s.bd.D (s.bd.D - r) = true then nI (hvR (fun d => nt (s.items k (u + d))) s.bd.D (s.bd.D - r)) else -1) (nI r - 1) = some (tldI s.bd.P (fun d => s.items k (u + d)) s.bd.D) := by
  obtain ⟨_, h6, hP, _⟩ := hv.2.2.1.d4
  intro r
  induction r with
  | zero =>
    intro t hr ht
    obtain ⟨t, rfl⟩ : ∃ k, t = k + 1 := ⟨t - 1, by omega⟩
    rw [L_X9_told_12.eq_2, if_pos (by decide +kernel)]
    congr 1
    unfold tldI
    by_cases c : tOK s.bd.P (fun d => s.items k (u + d)) s.bd.D = true
    · rw [if_pos c, if_pos (show hOK s.bd.P (fun d => s.items k (u + d)) s.bd.D (s.bd.D - 0) = true from (hOK_iff _ (by omega)).mpr (fun d _ hd => (tOK_iff _).mp c d hd)), Nat.sub_zero, hvR_D]
    · rw [if_neg c, if_neg (show ¬ hOK s.bd.P (fun d => s.items k (u + d)) s.bd.D (s.bd.D - 0) = true from fun h => c ((tOK_iff _).mpr (fun d hd => (hOK_iff _ (by omega)).mp h d (by omega) hd)))]
  | succ r ih =>
    intro t hr ht
    obtain ⟨t, rfl⟩ : ∃ k, t = k + 1 := ⟨t - 1, by omega⟩
    have hrec := ih t (by omega) (by omega)
    obtain ⟨r1, r2, r3⟩ := h.1 k hk
    rw [nI_pred, L_X9_told_12.eq_2, if_neg (nI_pos (by omega)), MH_r0 hN]
    simp only [Option.bind_some]
    rw [show (40 : Int32) = nI 40 from rfl, pk_mul, nI_add, nI_add, MH_a54 hN (by omega), show 40 * k + u + r = 40 * k + (u + r) by omega, r3 (u + r) (by omega)]
    simp only [Option.bind_some]
    rw [show nI r + (-1) = nI r - 1 by rw [Int32.sub_eq_add_neg]]
    by_cases ch : hOK s.bd.P (fun d => s.items k (u + d)) s.bd.D (s.bd.D - (r + 1)) = true
    · have c : ∀ d, r + 1 ≤ d → d < s.bd.D → 0 ≤ s.items k (u + d) ∧ s.items k (u + d) < nI s.bd.P := fun d h1 h2 => (hOK_iff _ (by omega)).mp ch d (by omega) h2
      have hd4 : ∀ d, d < s.bd.D → (fun d => if r + 1 ≤ d then nt (s.items k (u + d)) else 0) d < 4 := fun d hd => by
        show (if r + 1 ≤ d then nt (s.items k (u + d)) else 0) < 4
        split
        · next hrd =>
          obtain ⟨h0, h1⟩ := c d hrd hd
          obtain ⟨q, hq, e⟩ := ni_of (n := s.bd.P) (by omega) h0 (by rw [Int32.le_iff_toInt_le]; rw [Int32.lt_iff_toInt_lt] at h1; omega)
          rw [e, nI_ltI (by omega) (by omega)] at h1
          rw [e, nt_nI (by omega)]; omega
        · omega
      have heq : ∀ c', c' ≤ s.bd.D - (r + 1) → hvR (fun d => nt (s.items k (u + d))) s.bd.D c' = hvR (fun d => if r + 1 ≤ d then nt (s.items k (u + d)) else 0) s.bd.D c' := by
        intro c'
        induction c' with
        | zero => intro _; rfl
        | succ c' ih' =>
          intro hc'
          rw [hvR, hvR, ih' (by omega)]
          show _ + nt (s.items k (u + (s.bd.D - 1 - c'))) = _ + (if r + 1 ≤ s.bd.D - 1 - c' then nt (s.items k (u + (s.bd.D - 1 - c'))) else 0)
          rw [if_pos (by omega)]
      have hlt := hvR_lt hd4 (s.bd.D - (r + 1)) (by omega)
      rw [← heq _ (Nat.le_refl _)] at hlt
      have h46 := pow4_6 (show s.bd.D - (r + 1) ≤ 6 by omega)
      rw [if_pos ch, if_neg (nI_nlt0 (by omega)), isPeg_ok hN h hv]
      simp only [Option.bind_some, ite10]
      by_cases c2 : 0 ≤ s.items k (u + r) ∧ s.items k (u + r) < nI s.bd.P
      · rw [if_pos c2]
        rw [if_pos (show hOK s.bd.P (fun d => s.items k (u + d)) s.bd.D (s.bd.D - r) = true from (hOK_iff _ (by omega)).mpr (fun d h1 h2 => by
          by_cases e : d = r
          · subst e; exact c2
          · exact c d (by omega) h2))] at hrec
        obtain ⟨q, hq, e⟩ := ni_of (n := s.bd.P) (by omega) c2.1 (by rw [Int32.le_iff_toInt_le]; have := c2.2; rw [Int32.lt_iff_toInt_lt] at this; omega)
        rw [show s.bd.D - r = (s.bd.D - (r + 1)) + 1 by omega, hvR, show s.bd.D - 1 - (s.bd.D - (r + 1)) = r by omega] at hrec
        rw [e, show (4 : Int32) = nI 4 from rfl, pk_mul, nI_add]
        rw [e, nt_nI (by omega)] at hrec
        exact hrec
      · rw [if_neg c2]
        rw [if_neg (show ¬ hOK s.bd.P (fun d => s.items k (u + d)) s.bd.D (s.bd.D - r) = true from fun h => c2 ((hOK_iff _ (by omega)).mp h r (by omega) (by omega)))] at hrec
        exact hrec
    · rw [if_neg ch, if_pos (show (-1 : Int32) < 0 by decide +kernel)]
      rw [if_neg (show ¬ hOK s.bd.P (fun d => s.items k (u + d)) s.bd.D (s.bd.D - r) = true from fun h => ch ((hOK_iff _ (by omega)).mpr (fun d h1 h2 => (hOK_iff _ (by omega)).mp h d (by omega) h2)))] at hrec
      exact hrec
theorem tld_ok (hN : 66 ≤ N) (h : RM f a s) (hv : VA m s) {k u : Nat} (hk : k < 8) (hu : u + s.bd.D ≤ 40) : m_X9_told N (MH σ f a b) 53 (nI k) (nI u) = some (tldI s.bd.P (fun d => s.items k (u + d)) s.bd.D) := by
  obtain ⟨_, h6, hP, _⟩ := hv.2.2.1.d4
  unfold m_X9_told
  rw [MH_rv hN, MH_r10 hN]
  simp only [Option.bind_some]
  rw [show (2 : Int32) = nI 2 from rfl, MH_a58 hN (by omega), show a 58 2 = nI s.bd.D from h.2.2.2.2.1.2.2.1]
  simp only [Option.bind_some]
  have := told_loop (N := N) (σ := σ) (b := b) hN h hv hk hu s.bd.D fu (Nat.le_refl _) (by show _ < 20000; omega)
  rw [Nat.sub_self, if_pos (show hOK s.bd.P (fun d => s.items k (u + d)) s.bd.D 0 = true from rfl), hvR, nI_0] at this
  rw [this]
  rfl
theorem wrg_D {k : Nat} {i : Int32} {D : Nat} (hD : D ≤ 6) (hs : s.size k ≤ 40) (h : wrg s k i (nI D) = 0) : ∃ u, i = nI u ∧ u + D ≤ 40 := by
  have hw : wthB s k i (nI D) = true := by
    unfold wrg at h
    by_cases c5 : s.lane k = -1
    · rw [if_pos c5] at h; exact absurd h (by decide +kernel)
    · rw [if_neg c5] at h
      cases h5 : wthB s k i (nI D) with
      | true => rfl
      | false => rw [h5] at h; exact absurd h (by decide +kernel)
  obtain ⟨u, w, rfl, e, g1, g2, g3⟩ := wth_le hw hs
  have := (nI_eq (show D < 2 ^ 31 by omega) (by omega)).mp e
  exact ⟨u, rfl, by omega⟩
theorem nb_ne {b : AB} (h : b.P ≠ 0) : b ≠ noB := fun e => h (by rw [e]; rfl)
theorem mo_least (hN : 66 ≤ N) (h : RM f a s) (hv : VA m s) (hm : m < 2 ^ 30) (r i k : Int32) : MOp N f a b (fun σ => m_X9_least N σ 53 r i k) (o_least s r i k).1 (o_least s r i k).2 := by
  intro σ
  show ∃ f' a' b', m_X9_least N (MH σ f a b) 53 r i k = _ ∧ _
  obtain ⟨_, h6, hP, _⟩ := hv.2.2.1.d4
  unfold m_X9_least o_least
  rw [MH_rv hN, isBoard_ok hN h hv]
  simp only [Option.bind_some, ite01]
  by_cases c1 : s.bd.P = 0
  · rw [if_pos c1, if_pos c1]; exact ⟨f, a, b, rfl, h⟩
  rw [if_neg c1, if_neg c1, isRow_ok]
  simp only [Option.bind_some, ite10]
  by_cases c2 : 0 ≤ r ∧ r ≤ 7
  · rw [if_pos c2, if_pos c2]
    obtain ⟨q, hq, rfl⟩ := i7 c2
    by_cases c3 : -1 ≤ k
    · rw [if_pos c3, if_pos c3, MH_r10 hN]
      simp only [Option.bind_some]
      rw [show (2 : Int32) = nI 2 from rfl, MH_a58 hN (by omega), show a 58 2 = nI s.bd.D from h.2.2.2.2.1.2.2.1]
      simp only [Option.bind_some]
      rw [wrongOf_ok hN h hv hq, nt_nI (by omega)]
      simp only [Option.bind_some]
      by_cases c4 : wrg s q i (nI s.bd.D) = 0
      · rw [if_pos c4, if_pos c4]
        obtain ⟨u, rfl, hu⟩ := wrg_D h6 (hv.1 q hq).2 c4
        rw [tld_ok hN h hv hq hu, nt_nI (by omega)]
        simp only [Option.bind_some]
        unfold tldI
        by_cases c5 : tOK s.bd.P (fun d => s.items q (u + d)) s.bd.D = true
        · have hlt := tldN_lt hP c5
          have h46 := pow4_6 h6
          rw [if_pos c5, if_pos c5, if_pos (show (0 : Int32) ≤ _ from nI_ge0 (by unfold tldN at hlt; omega))]
          obtain ⟨f1, a1, g1, g2⟩ := leastTo_ok (N := N) (σ := σ) (b := b) hN h hv (nb_ne c1) hm (show tldN (fun d => s.items q (u + d)) s.bd.D < 4096 by omega) k
          rw [show nI (encP (fun d => nt (s.items q (u + d))) s.bd.D) = nI (tldN (fun d => s.items q (u + d)) s.bd.D) from rfl, g1]
          simp only [Option.bind_some]
          rw [good_ok hN]
          exact ⟨_, a1, b, rfl, g2.fnd 0⟩
        · rw [if_neg c5, if_neg c5, if_neg (show ¬ (0 : Int32) ≤ -1 by decide +kernel)]
          simp only [Option.bind_some]
          rw [good_ok hN]
          exact ⟨_, a, b, rfl, h.fnd 0⟩
      · rw [if_neg c4, if_neg c4, finds_ok hN]
        exact ⟨_, a, b, rfl, h.fnd _⟩
    · rw [if_neg c3, if_neg c3]; exact ⟨f, a, b, rfl, h⟩
  · rw [if_neg c2, if_neg c2]; exact ⟨f, a, b, rfl, h⟩
theorem tower_loop {D : Nat} (hN : 66 ≤ N) (hD : a 58 2 = nI D) (h6 : D ≤ 6) {p : Nat} (v2 : Int32) : ∀ (r t c : Nat), c + r = D → r < t → L_X9_tower_31 N (MH σ f a b) 53 (nI p) v2 t (nI (encP (fun _ => p) c)) (nI c) = some (nI (encP (fun _ => p) D)) := by
  intro r
  induction r with
  | zero =>
    intro t c hc ht
    obtain ⟨t, rfl⟩ : ∃ k, t = k + 1 := ⟨t - 1, by omega⟩
    obtain rfl : c = D := by omega
    rw [L_X9_tower_31.eq_2, MH_r10 hN]
    simp only [Option.bind_some]
    rw [show (2 : Int32) = nI 2 from rfl, MH_a58 hN (by omega), hD]
    simp only [Option.bind_some]
    rw [if_pos (nI_le (Nat.le_refl _) (by omega))]
  | succ r ih =>
    intro t c hc ht
    obtain ⟨t, rfl⟩ : ∃ k, t = k + 1 := ⟨t - 1, by omega⟩
    rw [L_X9_tower_31.eq_2, MH_r10 hN]
    simp only [Option.bind_some]
    rw [show (2 : Int32) = nI 2 from rfl, MH_a58 hN (by omega), hD]
    simp only [Option.bind_some]
    rw [if_neg (nI_ge (by omega) (by omega)), show (4 : Int32) = nI 4 from rfl, pk_mul, nI_add, nI_1, encC]
    exact ih t (c + 1) (by omega) (by omega)
theorem mo_tower (hN : 66 ≤ N) (h : RM f a s) (hv : VA m s) (hm : m < 2 ^ 30) (p k : Int32) : MOp N f a b (fun σ => m_X9_tower N σ 53 p k) (o_tower s p k) s := by
  intro σ
  show ∃ f' a' b', m_X9_tower N (MH σ f a b) 53 p k = _ ∧ _
  obtain ⟨_, h6, hP, _⟩ := hv.2.2.1.d4
  unfold m_X9_tower o_tower
  rw [MH_rv hN, isBoard_ok hN h hv]
  simp only [Option.bind_some, ite01]
  by_cases c1 : s.bd.P = 0
  · rw [if_pos c1, if_pos c1]; exact ⟨f, a, b, rfl, h⟩
  rw [if_neg c1, if_neg c1, isPeg_ok hN h hv]
  simp only [Option.bind_some, ite10]
  by_cases c2 : 0 ≤ p ∧ p < nI s.bd.P
  · rw [if_pos c2, if_pos c2]
    by_cases c3 : -1 ≤ k
    · rw [if_pos c3, if_pos c3]
      obtain ⟨q, hq, rfl⟩ := ni_of (n := s.bd.P) (by omega) c2.1 (by rw [Int32.le_iff_toInt_le]; have := c2.2; rw [Int32.lt_iff_toInt_lt] at this; omega)
      have hq2 := c2.2
      rw [nI_ltI (by omega) (by omega)] at hq2
      have hl := tower_loop (N := N) (σ := σ) (f := f) (b := b) (D := s.bd.D) (p := q) hN (show a 58 2 = nI s.bd.D from h.2.2.2.2.1.2.2.1) h6 k s.bd.D fu 0 (by omega) (by show _ < 20000; omega)
      rw [show encP (fun _ => q) 0 = 0 from rfl, nI_0] at hl
      rw [hl, nt_nI (by omega)]
      simp only [Option.bind_some]
      have hlt : encP (fun _ => q) s.bd.D < 4 ^ s.bd.D := encP_lt (fun d _ => by show q < 4; omega)
      have h46 := pow4_6 h6
      obtain ⟨f1, a1, g1, g2⟩ := leastTo_ok (N := N) (σ := σ) (b := b) hN h hv (nb_ne c1) hm (show encP (fun _ => q) s.bd.D < 4096 by omega) k
      rw [g1]
      exact ⟨f1, a1, b, rfl, g2⟩
    · rw [if_neg c3, if_neg c3]; exact ⟨f, a, b, rfl, h⟩
  · rw [if_neg c2, if_neg c2]; exact ⟨f, a, b, rfl, h⟩
end ML
